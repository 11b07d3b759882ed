/-! ===== one call: what must hold of both ===== -/
abbrev x_St : Type := (Nat × Nat × Nat × Nat × Nat × Nat × Nat) × List Nat × (Nat → Int) × Nat × Int × List (Nat × Nat) × List (List Nat) × List x_Gt
def x_C (m : y_m) (s : x_St) : Prop := x_Cl m s.1.1 s.1.2.1 s.1.2.2.1 s.1.2.2.2.1 s.1.2.2.2.2.1 s.1.2.2.2.2.2.1 s.1.2.2.2.2.2.2 s.2.1 s.2.2.1 s.2.2.2.1 s.2.2.2.2.1 s.2.2.2.2.2.1 s.2.2.2.2.2.2.1 s.2.2.2.2.2.2.2
def x_R (m : y_m) (s : x_St) : Prop := x_Rf m s.1.1 s.1.2.1 s.1.2.2.1 s.1.2.2.2.1 s.1.2.2.2.2.1 s.1.2.2.2.2.2.1 s.1.2.2.2.2.2.2 s.2.1 s.2.2.1 s.2.2.2.1 s.2.2.2.2.1 s.2.2.2.2.2.1 s.2.2.2.2.2.2.1 s.2.2.2.2.2.2.2
def x_W1 (s : x_St) : Prop := x_Wf s.1.1 s.1.2.1 s.1.2.2.2.2.1 s.1.2.2.2.2.2.2 s.2.2.2.2.2.1 s.2.2.2.2.2.2.1 s.2.2.2.2.2.2.2
def x_cG (m m1 : y_m) : Prop := x_cF m m1 ∧ m1.1 ≤ m.1 + 1 ∧ m1.2.1 ≤ m.2.1 + 6
def x_rG (m m2 : y_m) : Prop := x_rF m m2 ∧ y_mJ m2 105 0 = y_mJ m 105 0 ∧ m2.1 ≤ m.1 + 1 ∧ m2.2.1 ≤ m.2.1 + 7
def x_cA (sp : Nat → Nat) (D jc : Nat) (As : List y_Bv) (r : z_Ot) (m : y_m) (s : x_St) : Prop := ∃ m1, y_V sp true D jc (y_bo 10 0 0 :: As) m = some (r, m1) ∧ x_C m1 s ∧ x_cG m m1
def x_rA (sp : Nat → Nat) (D jr : Nat) (As : List y_Bv) (r : z_Ot) (k : Int) (s s' : x_St) : Prop := ∀ M, x_R M s → ∃ m2, y_V sp true D jr (y_bo 11 0 49 :: As) M = some (r, m2) ∧ x_R m2 s' ∧ x_rG M m2 ∧ y_mI m2 49 0 = k
/-- both answer alike, or both throw alike -/
def x_ok (sp : Nat → Nat) (D E : Nat) (mk : Int → z_Av) (jc jr : Nat) (As : List y_Bv) (lk : List (Nat × Int)) (m : y_m) (s : x_St) : Prop := ∃ s', x_W1 s' ∧ ((∃ v, x_cA sp D jc As (.inl (some (mk v))) m s' ∧ x_rA sp E jr As (.inl (some (mk v))) 0 s s') ∨ ∃ e k v, (e, k) ∈ lk ∧ k ≠ 0 ∧ x_cA sp D jc As (.inr e) m s' ∧ x_rA sp E jr As (.inl (some (mk v))) k s s')
section Step
variable {sp : Nat → Nat} {d : Nat} {m m1 m2 M : y_m} {L R A B t lw X N : Nat} {w w' : List Nat} {f : Nat → Int} {q : Int} {P : List (Nat × Nat)} {K : List (List Nat)} {G : List x_Gt}
theorem x_cG_q {F : Nat → Nat → Prop} (h : q_F F m m1) (g : ∀ a k, F a k → a ≤ 48) : x_cG m m1 := ⟨x_cF_q h (fun a k q => Or.inl (g a k q)), by rw [h.1]; omega, by rw [h.2.1]; omega⟩
theorem x_rG_q {F : Nat → Nat → Prop} (h : q_F F m m2) (g : ∀ a k, F a k → 49 ≤ a ∧ a ≠ 105) : x_rG m m2 := ⟨x_rF_q h (fun a k q => (g a k q).1), q_F_J h 105 0 (fun q => (g _ _ q).2 rfl), by rw [h.1]; omega, by rw [h.2.1]; omega⟩
theorem x_cG_tm : x_cG m (y_tm m) := ⟨x_cF_tm, Nat.le_refl _, Nat.le_refl _⟩
theorem x_cG_refl : x_cG m m := ⟨x_cF_refl, Nat.le_succ _, Nat.le_add_right _ _⟩
/-- the reference, nothing changed -/
theorem x_r1 {F : Nat → Nat → Prop} (hR : x_Rf M L R A B t lw X w f N q P K G) (hW : x_Wf L R t X P K G) (hq : q_F F M m2) (hS : ∀ a k, F a k → x_nr a k ∧ 49 ≤ a ∧ a ≠ 105 ∧ ¬ q_wr a ∧ a ≠ 52 ∧ a ≠ 54 ∧ (a ≠ 49 ∨ k ≠ 13)) : x_Rf m2 L R A B t lw X w f N q P K G ∧ x_rG M m2 :=
  ⟨x_Rf_u hR hW hq (fun a k q => (hS a k q).1) (u_R_F hR.1 hq (fun a k q => (hS a k q).2.2.2)), x_rG_q hq (fun a k q => ⟨(hS a k q).2.1, (hS a k q).2.2.1⟩)⟩
/-- the reference, another way -/
theorem x_r2 {F : Nat → Nat → Prop} (hR : x_Rf M L R A B t lw X w f N q P K G) (hW : x_Wf L R t X P K G) (hq : q_F F M m2) (hS : ∀ a k, F a k → x_nr a k ∧ 49 ≤ a ∧ a ≠ 105 ∧ ¬ q_wr a ∧ a ≠ 52) (hV : q_V m2 w') : x_Rf m2 L R A B t lw X w' f N q P K G ∧ x_rG M m2 :=
  ⟨x_Rf_u hR hW hq (fun a k q => (hS a k q).1) (u_R_way hR.1 hq (fun a k q => (hS a k q).2.2.2) hV), x_rG_q hq (fun a k q => ⟨(hS a k q).2.1, (hS a k q).2.2.1⟩)⟩
/-- the reference, thrown alone -/
theorem x_r0 {z : Int} (hR : x_Rf M L R A B t lw X w f N q P K G) (hW : x_Wf L R t X P K G) : x_Rf (y_sI M 49 0 z) L R A B t lw X w f N q P K G ∧ x_rG M (y_sI M 49 0 z) ∧ y_mI (y_sI M 49 0 z) 49 0 = z := by
  have a := x_r1 (F := fun a k => a = 49 ∧ k = 0) hR hW (m2 := y_sI M 49 0 z) (q_F_sI ⟨rfl, rfl⟩) (fun a k q => by unfold x_nr q_wr; omega)
  exact ⟨a.1, a.2, e_II⟩
theorem x_r00 {z y : Int} (hR : x_Rf M L R A B t lw X w f N q P K G) (hW : x_Wf L R t X P K G) : x_Rf (y_sI (y_sI M 49 0 y) 49 0 z) L R A B t lw X w f N q P K G ∧ x_rG M (y_sI (y_sI M 49 0 y) 49 0 z) ∧ y_mI (y_sI (y_sI M 49 0 y) 49 0 z) 49 0 = z := by
  have a := x_r1 (F := fun a k => a = 49 ∧ k = 0) hR hW (m2 := y_sI (y_sI M 49 0 y) 49 0 z) (q_F_trans (q_F_sI ⟨rfl, rfl⟩) (q_F_sI ⟨rfl, rfl⟩)) (fun a k q => by unfold x_nr q_wr; omega)
  exact ⟨a.1, a.2, e_II⟩
/-- the class, perhaps another way -/
theorem x_c1 {F : Nat → Nat → Prop} (hC : x_Cl m L R A B t lw X w f N q P K G) (hW : x_Wf L R t X P K G) (hq : q_F F m m1) (hS : ∀ a k, F a k → x_nc a k ∧ a ≤ 48) (hU : u_C m1 L R A B t lw X w') : x_Cl m1 L R A B t lw X w' f N q P K G ∧ x_cG m m1 :=
  ⟨x_Cl_u hC hW hq (fun a k q => (hS a k q).1) hU, x_cG_q hq (fun a k q => (hS a k q).2)⟩
/-- the class, a core that frames alone keep -/
theorem x_c2 {F : Nat → Nat → Prop} (hC : x_Cl m L R A B t lw X w f N q P K G) (hW : x_Wf L R t X P K G) (hq : q_F F m m1) (hS : ∀ a k, F a k → x_nc a k ∧ a ≤ 48 ∧ (31 ≤ a ∨ a ≤ 2 ∨ (13 ≤ a ∧ a ≤ 22) ∨ (25 ≤ a ∧ a ≤ 28))) : x_Cl m1 L R A B t lw X w f N q P K G ∧ x_cG m m1 :=
  x_c1 hC hW hq (fun a k q => ⟨(hS a k q).1, (hS a k q).2.1⟩) (u_C_F hC.1 hq (fun a k q => (hS a k q).2.2))
/-- a throw of the class, and of the reference -/
theorem x_thr {D E jc jr : Nat} {mk : Int → z_Av} {As : List y_Bv} {lk : List (Nat × Int)} {e : Nat} {k v : Int} (hC : x_Cl m L R A B t lw X w f N q P K G) (hW : x_Wf L R t X P K G) (hm : (e, k) ∈ lk) (hk : k ≠ 0) (hc : y_V sp true D jc (y_bo 10 0 0 :: As) m = some (.inr e, y_tm m)) (hr : ∀ M, x_Rf M L R A B t lw X w f N q P K G → y_V sp true E jr (y_bo 11 0 49 :: As) M = some (.inl (some (mk v)), y_sI (y_sI M 49 0 0) 49 0 k)) : x_ok sp D E mk jc jr As lk m ((L, R, A, B, t, lw, X), w, f, N, q, P, K, G) := by
  refine ⟨((L, R, A, B, t, lw, X), w, f, N, q, P, K, G), hW, Or.inr ⟨e, k, v, hm, hk, ⟨y_tm m, hc, x_Cl_tm hC, x_cG_tm⟩, fun M hM => ?_⟩⟩
  obtain ⟨a, b, c⟩ := x_r00 (y := 0) (z := k) hM hW
  exact ⟨_, hr M hM, a, b, c⟩
/-- both answer, the state as it was -/
theorem x_ans {D E jc jr : Nat} {mk : Int → z_Av} {As : List y_Bv} {lk : List (Nat × Int)} {v : Int} (hW : x_Wf L R t X P K G) (hc : ∃ m1, y_V sp true D jc (y_bo 10 0 0 :: As) m = some (.inl (some (mk v)), m1) ∧ x_Cl m1 L R A B t lw X w f N q P K G ∧ x_cG m m1) (hr : ∀ M, x_Rf M L R A B t lw X w f N q P K G → ∃ m2, y_V sp true E jr (y_bo 11 0 49 :: As) M = some (.inl (some (mk v)), m2) ∧ (x_Rf m2 L R A B t lw X w f N q P K G ∧ x_rG M m2) ∧ y_mI m2 49 0 = 0) : x_ok sp D E mk jc jr As lk m ((L, R, A, B, t, lw, X), w, f, N, q, P, K, G) := by
  refine ⟨((L, R, A, B, t, lw, X), w, f, N, q, P, K, G), hW, Or.inl ⟨v, hc, fun M hM => ?_⟩⟩
  obtain ⟨m2, a, b, c⟩ := hr M hM
  exact ⟨m2, a, b.1, b.2, c⟩
/-- both answer, with another way -/
theorem x_anw {D E jc jr : Nat} {mk : Int → z_Av} {As : List y_Bv} {lk : List (Nat × Int)} {v : Int} (hW : x_Wf L R t X P K G) (hc : ∃ m1, y_V sp true D jc (y_bo 10 0 0 :: As) m = some (.inl (some (mk v)), m1) ∧ x_Cl m1 L R A B t lw X w' f N q P K G ∧ x_cG m m1) (hr : ∀ M, x_Rf M L R A B t lw X w f N q P K G → ∃ m2, y_V sp true E jr (y_bo 11 0 49 :: As) M = some (.inl (some (mk v)), m2) ∧ (x_Rf m2 L R A B t lw X w' f N q P K G ∧ x_rG M m2) ∧ y_mI m2 49 0 = 0) : x_ok sp D E mk jc jr As lk m ((L, R, A, B, t, lw, X), w, f, N, q, P, K, G) := by
  refine ⟨((L, R, A, B, t, lw, X), w', f, N, q, P, K, G), hW, Or.inl ⟨v, hc, fun M hM => ?_⟩⟩
  obtain ⟨m2, a, b, c⟩ := hr M hM
  exact ⟨m2, a, b.1, b.2, c⟩
end Step
