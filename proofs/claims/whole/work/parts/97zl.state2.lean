/-! ===== the whole state: what is left as it was ===== -/
def x_nr (a k : Nat) : Prop := (a ≠ 49 ∨ (k ≠ 1 ∧ k ≠ 3 ∧ k ≠ 14 ∧ k ≠ 15 ∧ k ≠ 16)) ∧ a ≠ 50 ∧ (a < 56 ∨ 70 < a)
def x_nc (a k : Nat) : Prop := (a ≠ 0 ∨ (k ≠ 11 ∧ k ≠ 12)) ∧ (a ≠ 1 ∨ k ≠ 1) ∧ a ≠ 2 ∧ a ≠ 25 ∧ a ≠ 26 ∧ (a ≠ 22 ∨ k ≠ 3) ∧ a ≠ 27 ∧ (a < 31 ∨ 48 < a)
section State
variable {m m' m1 : y_m} {L R A B t lw X N : Nat} {w w' : List Nat} {f : Nat → Int} {q : Int} {P : List (Nat × Nat)} {K : List (List Nat)} {G : List x_Gt}
theorem x_Rt_F {S : Nat → Nat → Prop} (h : u_Rt m f N) (hF : q_F S m m1) (h1 : ¬ S 49 1) (h2 : ∀ k, ¬ S 50 k) : u_Rt m1 f N := ⟨by rw [q_F_I hF 49 1 h1]; exact h.1, h.2.1, fun i hi => ⟨by rw [q_F_I hF 50 i (h2 i)]; exact (h.2.2 i hi).1, (h.2.2 i hi).2⟩⟩
theorem x_Ct_F {S : Nat → Nat → Prop} (h : u_Ct m f N) (hF : q_F S m m1) (h1 : ¬ S 1 1) (h2 : ∀ k, ¬ S 2 k) : u_Ct m1 f N := ⟨by rw [q_F_I hF 1 1 h1]; exact h.1, h.2.1, fun i hi => ⟨by rw [q_F_I hF 2 i (h2 i)]; exact (h.2.2 i hi).1, (h.2.2 i hi).2⟩⟩
theorem x_SC_F {S : Nat → Nat → Prop} {a : Nat} (h : u_SC m a L w P K) (hF : q_F S m m1) (hS : ∀ y k, S y k → y < a ∨ a + 5 < y) : u_SC m1 a L w P K :=
  ⟨q_W_F h.1 hF (fun q => by have := hS _ _ q; omega) (fun k q => by have := hS _ _ q; omega), u_PC_F h.2.1 hF (fun k q => by have := hS _ _ q; omega) (fun k q => by have := hS _ _ q; omega), u_KC_F h.2.2 hF (fun q => by have := hS _ _ q; omega) (fun k q => by have := hS _ _ q; omega)⟩
theorem x_mb_F {S : Nat → Nat → Prop} (h : u_mb m) (hF : q_F S m m1) : u_mb m1 := by
  unfold u_mb at h ⊢
  rw [hF.2.2.1, hF.2.2.2.1]
  exact h
theorem x_Rf_u {F : Nat → Nat → Prop} (h : x_Rf m L R A B t lw X w f N q P K G) (hW : x_Wf L R t X P K G) (hF : q_F F m m1) (hS : ∀ a k, F a k → x_nr a k) (hU : u_R m1 L R A B t lw X w') : x_Rf m1 L R A B t lw X w' f N q P K G := by
  obtain ⟨r1, r2, r3, r4, r5, r6, r7⟩ := h
  obtain ⟨-, -, -, hP, hK, hG, -⟩ := hW
  have n : ∀ {a k}, ¬ x_nr a k → ¬ F a k := fun c q => c (hS _ _ q)
  refine ⟨hU, x_Rt_F r2 hF (n (by unfold x_nr; omega)) (fun k => n (by unfold x_nr; omega)), ?_, u_PR_F r4 hP.1 hF (n (by unfold x_nr; omega)) (fun a k q => ?_), u_KR_F r5 hK.1 hF (n (by unfold x_nr; omega)) (fun a k q => ?_), ?_, fun i hi => u_IR_F (r7 i hi) hF (fun k => n (by unfold x_nr; omega))⟩
  · rw [q_F_I hF 49 3 (n (by unfold x_nr; omega))]; exact r3
  · have := hS _ _ q
    unfold x_nr at this
    omega
  · have := hS _ _ q
    unfold x_nr at this
    omega
  · rw [q_F_I hF 49 16 (n (by unfold x_nr; omega))]; exact r6
theorem x_Cl_u {F : Nat → Nat → Prop} (h : x_Cl m L R A B t lw X w f N q P K G) (hW : x_Wf L R t X P K G) (hF : q_F F m m1) (hS : ∀ a k, F a k → x_nc a k) (hU : u_C m1 L R A B t lw X w') : x_Cl m1 L R A B t lw X w' f N q P K G := by
  obtain ⟨r1, r2, r3, r4, r5, r6, r7, r8⟩ := h
  obtain ⟨-, -, -, hP, hK, hG, -⟩ := hW
  have n : ∀ {a k}, ¬ x_nc a k → ¬ F a k := fun c q => c (hS _ _ q)
  refine ⟨hU, x_mb_F r2 hF, x_Ct_F r3 hF (n (by unfold x_nc; omega)) (fun k => n (by unfold x_nc; omega)), ?_, u_PC_F r5 hF (fun k => n (by unfold x_nc; omega)) (fun k => n (by unfold x_nc; omega)), u_KC_F r6 hF (n (by unfold x_nc; omega)) (fun k => n (by unfold x_nc; omega)), ?_, fun i hi => x_SC_F (r8 i hi) hF (fun y k q => ?_)⟩
  · rw [q_F_I hF 0 12 (n (by unfold x_nc; omega))]; exact r4
  · rw [q_F_I hF 0 11 (n (by unfold x_nc; omega))]; exact r7
  · have := hS _ _ q
    unfold x_nc at this
    omega
theorem x_Cl_k (h : x_Cl m L R A B t lw X w f N q P K G) (hW : x_Wf L R t X P K G) (hF : x_rF m m') : x_Cl m' L R A B t lw X w f N q P K G := by
  have hq : q_F (fun a _ => 49 ≤ a) m (m.1, m.2.1, m'.2.2) := ⟨rfl, rfl, hF.1, hF.2.1, fun a k c => (hF.2.2 a (by omega) k).1, fun a k c => (hF.2.2 a (by omega) k).2⟩
  have := x_Cl_u h hW hq (fun a k c => by unfold x_nc; omega) (u_C_F h.1 hq (fun a k c => by omega))
  exact x_Cl_n (n := m'.1) (s := m'.2.1) this
theorem x_Rf_k (h : x_Rf m L R A B t lw X w f N q P K G) (hW : x_Wf L R t X P K G) (hF : x_cF m m') : x_Rf m' L R A B t lw X w f N q P K G := by
  have hq : q_F (fun a _ => a ≤ 48 ∨ 104 ≤ a) m (m.1, m.2.1, y_mc m, y_mx m, m'.2.2.2.2) := ⟨rfl, rfl, rfl, rfl, fun a k c => (hF a (by omega) (by omega) k).1, fun a k c => (hF a (by omega) (by omega) k).2⟩
  have : x_Rf (m.1, m.2.1, y_mc m, y_mx m, m'.2.2.2.2) L R A B t lw X w f N q P K G := x_Rf_u h hW hq (fun a k c => by unfold x_nr; omega) (u_R_F h.1 hq (fun a k c => by unfold q_wr; omega))
  exact this
/-- counts alone, and a throw -/
theorem x_Cl_m (h : x_Cl m L R A B t lw X w f N q P K G) (n s : Nat) : x_Cl (n, s, m.2.2) L R A B t lw X w f N q P K G := h
theorem x_Cl_tm (h : x_Cl m L R A B t lw X w f N q P K G) : x_Cl (y_tm m) L R A B t lw X w f N q P K G := h
/-- the class's core, when little else was written -/
theorem x_UC {F : Nat → Nat → Prop} (h : u_C m L R A B t lw X w) (hF : q_F F m m1) (hS : ∀ a k, F a k → a ≠ y_mc m ∧ (a < 3 ∨ 5 < a) ∧ (a < 8 ∨ 12 < a)) (hs : c_Ws m1) (hw : q_W m1 23 w') (hy : x_Wy L R t w') : u_C m1 L R A B t lw X w' := by
  obtain ⟨k1, k2, k3, k4⟩ := h
  have ec : y_mc m1 = y_mc m := hF.2.2.1
  have hb := k1.b
  have e : ∀ k, y_mI m1 (y_mc m1) k = y_mI m (y_mc m) k := fun k => by
    rw [ec]
    exact q_F_I hF _ k (fun q => (hS _ _ q).1 rfl)
  refine ⟨⟨by rw [ec]; exact hb, by rw [e]; exact k1.eL, by rw [e]; exact k1.eR, by rw [e]; exact k1.eA, by rw [e]; exact k1.eB, by rw [e]; exact k1.et, by rw [e]; exact k1.ew, by rw [e]; exact k1.eX, k1.l6, k1.r6, k1.a99, k1.b99, k1.t4, k1.w2, hw, hy.1, hy.2.1, hy.2.2.1⟩, hs, ?_, m_Fi_F k4 hF (fun a k q => by have := hS _ _ q; omega)⟩
  rw [ec]
  exact m_Q_F k3 hF (fun a k q => by have := hS _ _ q; omega)
theorem x_Wy_C (h : u_C m L R A B t lw X w) : x_Wy L R t w := ⟨h.1.mem, h.1.nd, h.1.len, h.1.W.2.1⟩
theorem x_Wy_lt (h : x_Wy L R t w) : ∀ x ∈ w, x < L + R ∧ t.testBit x = false := fun x hx => by
  have := h.1 x hx
  rw [c_wh_bit, Bool.and_eq_true, Bool.not_eq_true'] at this
  exact ⟨of_decide_eq_true this.1, this.2⟩
theorem x_Wy_0 : x_Wy L R t [] := ⟨fun h hh => (by cases hh), List.nodup_nil, Or.inl rfl, Nat.zero_le _⟩
end State
