/-! ===== best, to the class and to the reference ===== -/
def u_C (m : y_m) (L R A B t lw X : Nat) (w : List Nat) : Prop := c_K m L R A B t lw X w ∧ c_Ws m ∧ m_Q m (y_mc m) L R A B lw ∧ m_Fi m L R A B lw (c_wh L R t)
def u_R (m : y_m) (L R A B t lw X : Nat) (w : List Nat) : Prop := m_Ch m L R A B lw t ∧ y_mI m 52 5 = X ∧ X ≤ 9999 ∧ q_V m w
section U
variable {m m' : y_m} {L R A B t lw X : Nat} {w : List Nat}
theorem c_K_G {P : Nat → Nat → Prop} (h : c_K m L R A B t lw X w) (hF : q_F P m m') (hP : ∀ a k, P a k → a ≠ 29 ∧ a ≠ 30 ∧ a ≠ 23 ∧ a ≠ 24) : c_K m' L R A B t lw X w := by
  have ec : y_mc m' = y_mc m := hF.2.2.1
  have hb := h.b
  have e : ∀ k, y_mI m' (y_mc m') k = y_mI m (y_mc m) k := fun k => by
    rw [ec]
    exact q_F_I hF _ k (fun q => by have := hP _ _ q; omega)
  obtain ⟨h1, h2, h3, h4, h5, h6, h7, h8, h9, h10, h11, h12, h13, h14, h15, h16, h17, h18⟩ := h
  exact ⟨by rw [ec]; exact h1, by rw [e]; exact h2, by rw [e]; exact h3, by rw [e]; exact h4, by rw [e]; exact h5, by rw [e]; exact h6, by rw [e]; exact h7, by rw [e]; exact h8, h9, h10, h11, h12, h13, h14, q_W_F h15 hF (fun q => by have := hP _ _ q; omega) (fun k q => by have := hP _ _ q; omega), h16, h17, h18⟩
/-- another way -/
theorem c_K_way {P : Nat → Nat → Prop} {w' : List Nat} (h : c_K m L R A B t lw X w) (hF : q_F P m m') (hP : ∀ a k, P a k → a ≠ 29 ∧ a ≠ 30) (hW : q_W m' 23 w') (h1 : ∀ h ∈ w', (c_wh L R t).testBit h = true) (h2 : w'.Nodup) (h3 : w' = [] ∨ 3 ≤ w'.length) : c_K m' L R A B t lw X w' := by
  have ec : y_mc m' = y_mc m := hF.2.2.1
  have hb := h.b
  have e : ∀ k, y_mI m' (y_mc m') k = y_mI m (y_mc m) k := fun k => by
    rw [ec]
    exact q_F_I hF _ k (fun q => by have := hP _ _ q; omega)
  obtain ⟨g1, g2, g3, g4, g5, g6, g7, g8, g9, g10, g11, g12, g13, g14, _, _, _, _⟩ := h
  exact ⟨by rw [ec]; exact g1, by rw [e]; exact g2, by rw [e]; exact g3, by rw [e]; exact g4, by rw [e]; exact g5, by rw [e]; exact g6, by rw [e]; exact g7, by rw [e]; exact g8, g9, g10, g11, g12, g13, g14, hW, h1, h2, h3⟩
theorem m_Fi_F {P : Nat → Nat → Prop} {W : Nat} (h : m_Fi m L R A B lw W) (hF : q_F P m m') (hP : ∀ a k, P a k → a ≠ 8 ∧ a ≠ 9 ∧ a ≠ 10 ∧ a ≠ 11 ∧ a ≠ 12) : m_Fi m' L R A B lw W := by
  refine ⟨m_Sv_F h.1 hF (fun a k q => by have := hP a k q; omega), ?_⟩
  have e4 : y_mI m' 8 4 = y_mI m 8 4 := q_F_I hF 8 4 (fun q => (hP _ _ q).1 rfl)
  rcases h.2 with q | ⟨q1, q2⟩
  · exact Or.inl (by rw [e4]; exact q)
  · exact Or.inr ⟨by rw [e4]; exact q1, fun T hT => by rw [q_F_J hF 10 T (fun q => (hP _ _ q).2.2.1 rfl)]; exact q2 T hT⟩
theorem u_C_F {P : Nat → Nat → Prop} (h : u_C m L R A B t lw X w) (hF : q_F P m m') (hP : ∀ a k, P a k → 31 ≤ a ∨ a ≤ 2 ∨ (13 ≤ a ∧ a ≤ 22) ∨ (25 ≤ a ∧ a ≤ 28)) : u_C m' L R A B t lw X w := by
  obtain ⟨h1, h2, h3, h4⟩ := h
  have ec : y_mc m' = y_mc m := hF.2.2.1
  refine ⟨c_K_G h1 hF (fun a k q => by have := hP a k q; omega), c_Ws_F h2 hF (fun q => by have := hP _ _ q; omega) (fun k q => by have := hP _ _ q; omega), ?_, m_Fi_F h4 hF (fun a k q => by have := hP a k q; omega)⟩
  rw [ec]
  have hb := h1.b
  exact m_Q_F h3 hF (fun a k q => by have := hP a k q; omega)
theorem u_R_F {P : Nat → Nat → Prop} (h : u_R m L R A B t lw X w) (hF : q_F P m m') (hP : ∀ a k, P a k → ¬ q_wr a ∧ a ≠ 52 ∧ a ≠ 54 ∧ (a ≠ 49 ∨ k ≠ 13)) : u_R m' L R A B t lw X w := by
  obtain ⟨h1, h2, h3, h4⟩ := h
  refine ⟨m_Ch_F h1 hF (fun a k q => by have := hP a k q; exact ⟨this.1, this.2.1⟩), by rw [q_F_I hF 52 5 (fun q => (hP _ _ q).2.1 rfl)]; exact h2, h3, ?_, h4.2.1, fun i hi => ?_⟩
  · rw [q_F_I hF 49 13 (fun q => by have := (hP _ _ q).2.2.2; omega)]; exact h4.1
  · rw [q_F_I hF 54 i (fun q => (hP _ _ q).2.2.1 rfl)]; exact h4.2.2 i hi
theorem u_R_way {P : Nat → Nat → Prop} {w' : List Nat} (h : u_R m L R A B t lw X w) (hF : q_F P m m') (hP : ∀ a k, P a k → ¬ q_wr a ∧ a ≠ 52) (hV : q_V m' w') : u_R m' L R A B t lw X w' :=
  ⟨m_Ch_F h.1 hF hP, by rw [q_F_I hF 52 5 (fun q => (hP _ _ q).2 rfl)]; exact h.2.1, h.2.2.1, hV⟩
end U
section Best
variable {sp : Nat → Nat} {ph : Bool} {d : Nat} {m : y_m} {L R A B t lw X : Nat} {w : List Nat}
def u_Fd (a k : Nat) : Prop := m_Fp a k ∨ (a = 20 ∧ k = 1) ∨ a = 21
theorem m_gr_len {what : Nat} {kd : Nat → Nat → Bool} {s : Nat} {M : Int} : ∀ (f : Nat) (md : Option (Bool × Bool)) (last rest : Nat) (pre : Int) (u : List Nat), m_gr what L A B lw kd s M f md last rest pre u → u.length = f ∧ u.Nodup ∧ ∀ x ∈ u, rest.testBit x = true
  | 0, _, _, _, _, u, h => by rw [show u = [] from h]; exact ⟨rfl, List.nodup_nil, fun x hx => absurd hx List.not_mem_nil⟩
  | f + 1, md, last, rest, pre, u, h => by
    obtain ⟨h, u', rfl, h1, h2, h3⟩ := h
    obtain ⟨g1, g2, g3⟩ := m_gr_len f _ _ _ _ u' h3
    refine ⟨by rw [List.length_cons, g1], List.nodup_cons.mpr ⟨fun q => ?_, g2⟩, fun x hx => ?_⟩
    · have := g3 h q
      rw [w_rm_bit] at this; simp at this
    · rcases List.mem_cons.mp hx with rfl | hx
      · exact h1.1
      · have := g3 x hx
        rw [w_rm_bit, Bool.and_eq_true] at this; exact this.1
theorem m_best_way {what T : Nat} {M : Int} {u : List Nat} (hT : T < 4096) (hp : 3 ≤ n_pop T) (h : m_best what L A B lw T M u) : (n_low T :: u).Nodup ∧ (∀ x ∈ n_low T :: u, T.testBit x = true) ∧ (n_low T :: u).length = n_pop T := by
  have hT0 : 0 < T := by
    rcases Nat.eq_zero_or_pos T with q | q
    · rw [q, show n_pop 0 = 0 from by decide] at hp; omega
    · exact q
  have lo := w_low hT hT0
  obtain ⟨g1, g2, g3⟩ := m_gr_len _ _ _ _ _ _ h
  refine ⟨List.nodup_cons.mpr ⟨fun q => ?_, g2⟩, fun x hx => ?_, by rw [List.length_cons, g1]; omega⟩
  · have := g3 _ q
    rw [w_rm_bit] at this; simp at this
  · rcases List.mem_cons.mp hx with rfl | hx
    · exact lo.2.2.1
    · have := g3 x hx
      rw [w_rm_bit, Bool.and_eq_true] at this; exact this.1
/-- what best tells -/
def m_tell (what L A B : Nat) (E : List (Nat × Nat)) : Int := if what = 2 then (- m_S 2 L A B E + 64) * 1000000 / 288230376151711744 else (m_S 0 L A B E + 64) * 1000 / 281474976710656
def u_F148 (a k : Nat) : Prop := u_Fd a k ∨ (a = 23 ∧ k = 1) ∨ a = 24
theorem s_148 {x : Int} {what : Nat} (hU : u_C m L R A B t lw X w) (hx : c_rd L R t x) (h0 : -2147483648 ≤ x) (h1 : x < 2147483648) (hw : what ≤ 2) : ∃ m1, q_F m_Fp m m1 ∧ u_C m1 L R A B t lw X w ∧ (((∀ E, ¬ m_rx lw L x.toNat E) ∧ y_V sp ph (d + 7) 148 [y_bo 10 0 0, y_bi x, y_bi (what : Int)] m = y_rI (-1) m1) ∨ ∃ M u m2, m_is M (m_P what L A B (m_rx lw L x.toNat)) ∧ M ≠ m_F ∧ m_best what L A B lw x.toNat M u ∧ y_V sp ph (d + 7) 148 [y_bo 10 0 0, y_bi x, y_bi (what : Int)] m = y_rI (m_tell what L A B (m_eu (n_low x.toNat) (n_low x.toNat) u)) m2 ∧ q_F (fun a k => (a = 20 ∧ k = 1) ∨ a = 21 ∨ (a = 23 ∧ k = 1) ∨ a = 24) m1 m2 ∧ q_W m2 23 (n_low x.toNat :: u)) := by
  obtain ⟨hK, hWs, hQ, hFi⟩ := hU
  have s172 := (s_172 (sp := sp) (ph := ph) (d := d + 3) hK.eL hK.eR hK.et hK.l6 hK.r6 hK.t4 h0 h1).1 hx
  have hlt := c_rd_lt hK.l6 hK.r6 hx.2.1
  obtain ⟨T, hn⟩ : ∃ n : Nat, x = n := ⟨x.toNat, by have := hx.1; omega⟩
  subst hn
  rw [Int.toNat_natCast] at *
  have hp3 : 3 ≤ n_pop T := by
    have := hx.2.2
    rw [Int.toNat_natCast] at this; exact this
  have hb := hK.b
  have hB := hQ.1
  have hinT : ∀ j, T.testBit j = true → j < L + R := fun j hj => c_wh_in (n_bd_0.mp hx.2.1 j hj)
  obtain ⟨m1, a1, a2, a3, a4, a5, a6⟩ := s_108 (sp := sp) (ph := ph) (d := d + 1) (what := what) hlt hinT hw hQ hFi.1
  have ec : y_mc m1 = y_mc m := a2.2.2.1
  have hK1 : c_K m1 L R A B t lw X w := c_K_G hK a2 (fun a k q => by unfold m_Fp at q; omega)
  have hFi1 : m_Fi m1 L R A B lw (c_wh L R t) := ⟨a6, by
    have e4 : y_mI m1 8 4 = y_mI m 8 4 := q_F_I a2 8 4 (by unfold m_Fp; omega)
    rcases hFi.2 with q | ⟨q1, q2⟩
    · exact Or.inl (by rw [e4]; exact q)
    · exact Or.inr ⟨by rw [e4]; exact q1, fun S hS => by rw [q_F_J a2 10 S (by unfold m_Fp; omega)]; exact q2 S hS⟩⟩
  have hU1 : u_C m1 L R A B t lw X w := ⟨hK1, c_Ws_F hWs a2 (by unfold m_Fp; omega) (by unfold m_Fp; omega), by rw [ec]; exact a3, hFi1⟩
  have st : y_V sp ph (d + 7) 148 [y_bo 10 0 0, y_bi (T : Int), y_bi (what : Int)] m = y_R sp ph (d + 6) 148 29 [some (y_bo 10 0 0), some (y_bi (T : Int)), some (y_bi (what : Int))] [] m := by
    rcases (show what = 0 ∨ what = 1 ∨ what = 2 by omega) with rfl | rfl | rfl
    all_goals simp (disch := omega) only [y_C_148, y_E_148_0, s172, e_bV, z_w_id, if_pos, if_neg]
  refine ⟨m1, a2, hU1, ?_⟩
  rw [st]
  by_cases hex : ∃ E, m_RD lw L T E
  · obtain ⟨E0, hE0⟩ := hex
    obtain ⟨M, u, m2, c1, c2, c3, c4, c5, c6⟩ := s_120b (sp := sp) (ph := ph) (d := d + 2) (a := 20) (b := y_mc m) (what := what) rfl a3 hlt hx.2.2 hinT a4 a5 hE0
    have hF20 : q_F (fun y k => (y = 20 ∧ k = 1) ∨ y = 21) m1 m2 := q_F_mono c2 (fun a k q => by omega)
    obtain ⟨m3, e1, e2, e3⟩ := s_173 (sp := sp) (ph := ph) (d := d + 2) (List.cons_ne_nil _ _) c6
    have ec2 : y_mc m2 = y_mc m := c2.2.2.1.trans ec
    have ec3 : y_mc m3 = y_mc m := e2.2.2.1.trans ec2
    obtain ⟨wn, wm, wl⟩ := m_best_way hlt hx.2.2 c5
    have wb : ∀ x ∈ n_low T :: u, x < L + R := fun x hx => hinT x (wm x hx)
    have hQ2 := m_Q_F a3 c2 (fun a k q => by omega)
    have hQ3 := m_Q_F hQ2 e2 (fun a k q => by omega)
    have s54 := s_54 (sp := sp) (ph := ph) (d := d + 2) (m := m3) (a := 23) (b := y_mc m) (w := n_low T :: u) (R := R) e3 (List.cons_ne_nil _ _) wb hQ3.2.2.1 hB.1 hB.2.1 hQ3.2.2.2.2.2.1 hB.2.2.2.2.2.1
    have s55 := s_55 (sp := sp) (ph := ph) (d := d + 2) (m := m3) (a := 23) (b := y_mc m) (w := n_low T :: u) (R := R) e3 (List.cons_ne_nil _ _) wb hQ3.2.2.1 hB.1 hB.2.1
    rw [m_len_w hQ3 wb] at s54
    rw [m_pul_w hQ3 wb] at s55
    have hlen : 2 ≤ u.length := by rw [List.length_cons] at wl; omega
    have hE := m_way_E (n := L + R) wn hlen wb
    have hbL := m_S_b (what := 0) hB (E := m_eu (n_low T) (n_low T) u) (fun e he => by have := hE.2.1 e he; omega)
    have hbP := m_S_b (what := 2) hB (E := m_eu (n_low T) (n_low T) u) (fun e he => by have := hE.2.1 e he; omega)
    have hpl := n_pop_le hlt
    have hlen2 : (m_eu (n_low T) (n_low T) u).length ≤ 12 := by rw [hE.2.2]; rw [List.length_cons] at wl; omega
    -- all numbers of spans are not negative
    have nn : 0 ≤ m_S 0 L A B (m_eu (n_low T) (n_low T) u) ∧ 0 ≤ - m_S 2 L A B (m_eu (n_low T) (n_low T) u) := by
      have f1 := m_dec_fx (E := m_eu (n_low T) (n_low T) u) false hB ⟨⟨hE.1, hE.2.1⟩, by omega⟩
      have f2 := m_dec_fx (E := m_eu (n_low T) (n_low T) u) true hB ⟨⟨hE.1, hE.2.1⟩, by omega⟩
      have p1 := (m_dec_D (E := m_eu (n_low T) (n_low T) u) false hB ⟨⟨hE.1, hE.2.1⟩, by omega⟩).2.2
      have p2 := (m_dec_D (E := m_eu (n_low T) (n_low T) u) true hB ⟨⟨hE.1, hE.2.1⟩, by omega⟩).2.2
      rw [q_fx_nat p1] at f1
      rw [q_fx_nat p2] at f2
      have t1 : 0 ≤ q_TT false := by decide
      have t2 : 0 ≤ q_TT true := by decide
      have := Int.mul_nonneg p1.1 t1
      have := Int.mul_nonneg p2.1 t2
      rw [m_S_eq, m_S_eq, if_pos rfl]
      rw [← f2]
      refine ⟨?_, by omega⟩
      show 0 ≤ w_S (w_f false L A B) _
      rw [← f1]; omega
    refine Or.inr ⟨M, u, m3, m_is_congr c3 (fun x => m_P_congr (fun E => m_RD_rx)), c4, c5, ?_, q_F_trans (q_F_mono hF20 (fun a k q => by omega)) (q_F_mono e2 (fun a k q => by omega)), e3⟩
    unfold m_tell
    rw [y_E_148_29, a1, e_bV, ec, c1, e_bI, if_pos (by decide), y_E_148_67, e1, e_bI]
    by_cases w2 : what = 2
    · have s59 := s_59 (sp := sp) (ph := ph) (d := d + 5) (m := m3) (x := - m_S 2 L A B (m_eu (n_low T) (n_low T) u)) (by omega) (by omega)
      rw [if_neg (by rw [z_w_id (by omega) (by omega)]; omega), if_pos w2, ec3, s55, e_bL, s59, e_bI, y_E_148_122]
    · have s58 := s_58 (sp := sp) (ph := ph) (d := d + 5) (m := m3) (x := m_S 0 L A B (m_eu (n_low T) (n_low T) u)) (by omega) (by omega)
      rw [if_pos (by rw [z_w_id (by omega) (by omega)]; omega), if_neg w2, y_E_148_101, ec3, s54, e_bL, s58, e_bI, y_E_148_122]
  · have hno : ∀ E, ¬ m_RD lw L T E := fun E h => hex ⟨E, h⟩
    have c1 := s_120a (sp := sp) (ph := ph) (d := d + 2) (a := 20) (b := y_mc m) (what := what) a3 hlt hx.2.2 hinT a4 (a5 T (fun j hj => hj)) hno
    refine Or.inl ⟨fun E h => hno E (m_RD_rx.mpr h), ?_⟩
    rw [y_E_148_29, a1, e_bV, ec, c1, e_bI, if_neg (by decide)]
end Best
