/-! ===== the class's finder: solve, homeward, closed, tours ===== -/
def m_Sv (m : y_m) (L R A B lw : Nat) : Prop := y_mI m 8 6 = -1 ∨ ∃ what H : Nat, what ≤ 2 ∧ H < 4096 ∧ (∀ j, H.testBit j = true → j < L + R) ∧ y_mI m 8 6 = what ∧ y_mI m 8 5 = H ∧ m_ct m what L R A B lw 144 ∧ ∀ T, (∀ j, T.testBit j = true → H.testBit j = true) → m_ce m what L R A B lw T
def m_Fp (a k : Nat) : Prop := (a = 8 ∧ (k = 5 ∨ k = 6)) ∨ a = 9 ∨ a = 11 ∨ a = 12
section Solve
variable {sp : Nat → Nat} {ph : Bool} {d : Nat} {m : y_m} {b L R A B lw what H T hole : Nat}
theorem m_sub_le {S T : Nat} (h : ∀ j, S.testBit j = true → T.testBit j = true) : S ≤ T := Nat.le_of_testBit h
theorem m_ce_F {P : Nat → Nat → Prop} {m m' : y_m} (h : m_ce m what L R A B lw T) (hF : q_F P m m') (hP : ∀ k, P 9 k → ¬ (T * 48 ≤ k ∧ k < T * 48 + 48)) : m_ce m' what L R A B lw T := fun x hx hb hl o i => by
  have b3 : 2 * o.toNat + i.toNat < 4 := by cases o <;> cases i <;> decide
  have := h x hx hb hl o i
  rw [q_F_J hF 9 _ (fun q => hP _ q (by rw [m_ix_eq]; omega))]
  exact this
theorem l_108 (hH : H < 4096) (hin : ∀ j, H.testBit j = true → j < L + R) : ∀ (n T : Nat) (m : y_m), T + n = H + 1 → m_Q m b L R A B lw → m_ct m what L R A B lw 144 → (∀ S, S < T → (∀ j, S.testBit j = true → H.testBit j = true) → m_ce m what L R A B lw S) → ∃ m', y_R sp ph (d + 4) 108 32 [some (y_bo 2 0 8), some (y_bo 0 0 b), none, some (y_bi (H : Int)), some (y_bi (what : Int)), some (y_bi (T : Int))] [] m = y_rV (y_sI (y_sI m' 8 6 what) 8 5 H) ∧ q_F (fun a _ => a = 9) m m' ∧ m_ct m' what L R A B lw 144 ∧ (∀ S, (∀ j, S.testBit j = true → H.testBit j = true) → m_ce m' what L R A B lw S) := by
  intro n
  induction n with
  | zero =>
    intro T m hn hQ hc he
    refine ⟨m, ?_, q_F_refl, hc, fun S hS => he S (by have := m_sub_le hS; omega) hS⟩
    rw [y_E_108_32]
    simp (disch := omega) only [z_w_id, if_pos, y_E_108_60]
  | succ n ih =>
    intro T m hn hQ hc he
    have e1 : (T : Int) + 1 = ((T + 1 : Nat) : Int) := by omega
    have hb0 := n_bd_le T H
    rw [y_E_108_32]
    by_cases q : n_bd T H = 0
    · have hsub := n_bd_0.mp q
      obtain ⟨m1, a1, a2, a3⟩ := s_115 (sp := sp) (ph := ph) (d := d) (T := T) (by omega) (fun j hj => hin j (hsub j hj)) hQ hc (fun h hb hl => he (w_rm T h) (m_lt_rm hb) (fun j hj => hsub j (by rw [w_rm_bit, Bool.and_eq_true] at hj; exact hj.1)))
      have F2 : q_F (fun a _ => a = 9) m m1 := q_F_mono a2 (fun a k h => by omega)
      obtain ⟨m2, c1, c2, c3, c4⟩ := ih (T + 1) m1 (by omega) (m_Q_F hQ F2 (fun a k h => by have := hQ.2.2.2.2.2.2.2; omega)) (m_ct_F hc F2 (fun a k h => by omega)) (fun S hS hsub => by
        by_cases e : S = T
        · subst e; exact a3
        · exact m_ce_F (he S (by omega) hsub) a2 (fun k hk => by omega))
      refine ⟨m2, ?_, q_F_trans F2 c2, c3, c4⟩
      rw [← c1]
      simp (disch := omega) only [z_w_id, if_neg, n_not, q, a1, e_bV, y_E_108_54, e1, not_true_eq_false, reduceIte]
      try rfl
    · obtain ⟨m2, c1, c2, c3, c4⟩ := ih (T + 1) m (by omega) hQ hc (fun S hS hsub => by
        by_cases e : S = T
        · subst e; exact absurd (n_bd_0.mpr hsub) q
        · exact he S (by omega) hsub)
      refine ⟨m2, ?_, c2, c3, c4⟩
      rw [← c1]
      simp (disch := omega) only [z_w_id, if_neg, if_pos, n_not, y_E_108_54, e1]
      try rfl
theorem s_108 (hH : H < 4096) (hin : ∀ j, H.testBit j = true → j < L + R) (hw : what ≤ 2) (hQ : m_Q m b L R A B lw) (hS : m_Sv m L R A B lw) : ∃ m', y_V sp ph (d + 5) 108 [y_bo 2 0 8, y_bo 0 0 b, y_bo 4 0 3, y_bi (H : Int), y_bi (what : Int)] m = y_rV m' ∧ q_F m_Fp m m' ∧ m_Q m' b L R A B lw ∧ m_ct m' what L R A B lw 144 ∧ (∀ S, (∀ j, S.testBit j = true → H.testBit j = true) → m_ce m' what L R A B lw S) ∧ m_Sv m' L R A B lw := by
  have fresh : ∃ m', y_R sp ph (d + 4) 108 21 [some (y_bo 2 0 8), some (y_bo 0 0 b), some (y_bo 4 0 3), some (y_bi (H : Int)), some (y_bi (what : Int)), none] [] m = y_rV m' ∧ q_F m_Fp m m' ∧ m_Q m' b L R A B lw ∧ m_ct m' what L R A B lw 144 ∧ (∀ S, (∀ j, S.testBit j = true → H.testBit j = true) → m_ce m' what L R A B lw S) ∧ m_Sv m' L R A B lw := by
    obtain ⟨m1, a1, a2, a3, a4⟩ := s_111 (sp := sp) (ph := ph) (d := d) hQ hw
    obtain ⟨m2, c1, c2, c3, c4⟩ := l_108 (sp := sp) (ph := ph) (d := d) hH hin (H + 1) 0 m1 (by omega) a3 a4 (fun S hS => absurd hS (Nat.not_lt_zero _))
    have c1' : y_R sp ph (d + 4) 108 32 [some (y_bo 2 0 8), some (y_bo 0 0 b), none, some (y_bi (H : Int)), some (y_bi (what : Int)), some (y_bi 0)] [] m1 = _ := c1
    have F3 : q_F (fun a k => a = 8 ∧ (k = 5 ∨ k = 6)) m2 (y_sI (y_sI m2 8 6 what) 8 5 H) := q_F_trans (q_F_sI (by omega)) (q_F_sI (by omega))
    have F : q_F m_Fp m (y_sI (y_sI m2 8 6 what) 8 5 H) := q_F_trans (q_F_mono a2 (fun a k h => by unfold m_Fp; omega)) (q_F_trans (q_F_mono c2 (fun a k h => by unfold m_Fp; omega)) (q_F_mono F3 (fun a k h => by unfold m_Fp; omega)))
    have hct := m_ct_F c3 F3 (fun a k h => by omega)
    have hce : ∀ S, (∀ j, S.testBit j = true → H.testBit j = true) → m_ce (y_sI (y_sI m2 8 6 what) 8 5 H) what L R A B lw S := fun S hS => m_ce_F (c4 S hS) F3 (fun k hk => by omega)
    refine ⟨_, ?_, F, m_Q_F hQ F (fun a k h => by have := hQ.2.2.2.2.2.2.2; unfold m_Fp at h; omega), hct, hce, Or.inr ⟨what, H, hw, hH, hin, ?_, e_II, hct, hce⟩⟩
    · rw [y_E_108_21, a1, e_bV, c1']
    · rw [e_II' (by omega), e_II]
  have run : ∀ (hne : ¬ (y_mI m 8 6 = what ∧ ∃ H2 : Nat, y_mI m 8 5 = H2 ∧ H2 < 4096 ∧ n_bd H H2 = 0)) (hv : y_mI m 8 6 = -1 ∨ ∃ w2 H2 : Nat, w2 ≤ 2 ∧ y_mI m 8 6 = w2 ∧ y_mI m 8 5 = H2 ∧ H2 < 4096), y_V sp ph (d + 5) 108 [y_bo 2 0 8, y_bo 0 0 b, y_bo 4 0 3, y_bi (H : Int), y_bi (what : Int)] m = y_R sp ph (d + 4) 108 21 [some (y_bo 2 0 8), some (y_bo 0 0 b), some (y_bo 4 0 3), some (y_bi (H : Int)), some (y_bi (what : Int)), none] [] m := by
    intro hne hv
    rw [y_C_108, y_E_108_0]
    rcases hv with q | ⟨w2, H2, q1, q2, q3, q4⟩
    · rw [q]
      simp (disch := omega) only [z_w_id, if_pos]
    · by_cases e : w2 = what
      · subst e
        have hnz : n_bd H H2 ≠ 0 := fun z => hne ⟨q2, H2, q3, q4, z⟩
        have := n_bd_le H H2
        rw [q2, q3]
        simp (disch := omega) only [z_w_id, if_pos, n_not, not_true_eq_false, reduceIte]
      · rw [q2]
        simp (disch := omega) only [z_w_id, if_pos]
  rcases hS with q | ⟨w2, H2, h1, h2, h3, h4, h5, h6, h7⟩
  · obtain ⟨m1, a1, a2⟩ := fresh
    exact ⟨m1, by rw [run (fun r => by omega) (Or.inl q)]; exact a1, a2⟩
  · by_cases e : w2 = what ∧ n_bd H H2 = 0
    · obtain ⟨rfl, e2⟩ := e
      have hsub := n_bd_0.mp e2
      refine ⟨m, ?_, q_F_refl, hQ, h6, fun S hS => h7 S (fun j hj => hsub j (hS j hj)), Or.inr ⟨w2, H2, h1, h2, h3, h4, h5, h6, h7⟩⟩
      rw [y_C_108, y_E_108_0, h4, h5]
      simp (disch := omega) only [z_w_id, if_neg, n_not, e2, not_true_eq_false, reduceIte]
      try rfl
    · obtain ⟨m1, a1, a2⟩ := fresh
      refine ⟨m1, ?_, a2⟩
      rw [run (fun r => ?_) (Or.inr ⟨w2, H2, h1, h4, h5, h2⟩)]
      · exact a1
      · obtain ⟨r1, H3, r2, r3, r4⟩ := r
        have : H3 = H2 := by omega
        subst this
        exact e ⟨by omega, r4⟩
def m_mi (p : Bool) (c v : Int) : Int := if p then (if c < v then c else v) else v
theorem m_mi_is {p : Bool} {c v : Int} {P Q : Int → Prop} (h : m_is v P) (g : m_is c Q) : m_is (m_mi p c v) (fun x => P x ∨ (p = true ∧ Q x)) := by
  unfold m_mi
  cases p
  · simp only [Bool.false_eq_true, false_and, or_false, reduceIte]; exact h
  · simp only [reduceIte, true_and]; exact m_is_or h g
theorem m_mi_rg {p : Bool} {c v : Int} (h : m_rg c) (g : m_rg v) : m_rg (m_mi p c v) := by
  unfold m_mi; repeat' split
  all_goals assumption
theorem l_118i {ix : Nat} {k bg o h : Bool} {v top : Int} (hw : y_mI m b 5 = (lw : Int)) (hlw : lw ≤ 2) (hix : ix + 3 < 196608) (ht : ¬ z_w top < z_w (n_b h)) (hv : m_rg v) (hc : m_rg (y_mJ m 9 (ix + 2 * o.toNat + h.toNat))) : y_R sp ph (d + 1) 118 39 [some (y_bo 2 0 8), some (y_bo 0 0 b), none, none, some (y_bi (n_b k)), some (y_bi (n_b bg)), some (y_bi (ix : Int)), some (y_bi top), some (y_bl v), none, some (y_bi (n_b o)), some (y_bi (n_b h))] [] m = y_R sp ph (d + 1) 118 39 [some (y_bo 2 0 8), some (y_bo 0 0 b), none, none, some (y_bi (n_b k)), some (y_bi (n_b bg)), some (y_bi (ix : Int)), some (y_bi top), some (y_bl (m_mi (r_may lw o k && r_may lw h bg) (y_mJ m 9 (ix + 2 * o.toNat + h.toNat)) v)), none, some (y_bi (n_b o)), some (y_bi (n_b h + 1))] [] m := by
  have l1 : 2 * o.toNat + h.toNat < 4 := by cases o <;> cases h <;> decide
  have e : (ix : Int) + 2 * n_b o + n_b h = ((ix + 2 * o.toNat + h.toNat : Nat) : Int) := by cases o <;> cases h <;> simp [n_b] <;> omega
  rw [y_E_118_39, if_neg ht]
  unfold m_mi
  unfold m_rg m_F at hv hc
  cases q1 : r_may lw o k
  · simp (disch := omega) only [s_46 hw hlw, e_bI, e_nb0, q1, reduceIte, y_E_118_92, Bool.false_and, Bool.false_eq_true]
  · cases q2 : r_may lw h bg
    · simp (disch := omega) only [s_46 hw hlw, e_bI, e_nb0, q1, q2, reduceIte, y_E_118_92, Bool.and_false, Bool.false_eq_true, Bool.true_eq_false]
    · have s9 := s_9 (sp := sp) (ph := ph) (d := d) (m := m) (n := 196608) (a := 9) (x := ((ix + 2 * o.toNat + h.toNat : Nat) : Int)) (by omega) (by omega) (by omega)
      rw [Int.toNat_natCast] at s9
      simp (disch := omega) only [s_46 hw hlw, e_bI, e_nb0, q1, q2, reduceIte, y_E_118_92, Bool.and_true, Bool.true_eq_false, e, s9, e_bL, s_6]
theorem l_118h {ix : Nat} {k bg o : Bool} {v : Int} (hw : y_mI m b 5 = (lw : Int)) (hlw : lw ≤ 2) (hix : ix + 3 < 196608) (hv : m_rg v) (hc : ∀ j, j < 4 → m_rg (y_mJ m 9 (ix + j))) (ht : ¬ z_w (n_b (!decide (lw = 0))) < z_w (n_b o)) : y_R sp ph (d + 1) 118 29 [some (y_bo 2 0 8), some (y_bo 0 0 b), none, none, some (y_bi (n_b k)), some (y_bi (n_b bg)), some (y_bi (ix : Int)), some (y_bi (n_b (!decide (lw = 0)))), some (y_bl v), none, some (y_bi (n_b o)), none] [] m = y_R sp ph (d + 1) 118 29 [some (y_bo 2 0 8), some (y_bo 0 0 b), none, none, some (y_bi (n_b k)), some (y_bi (n_b bg)), some (y_bi (ix : Int)), some (y_bi (n_b (!decide (lw = 0)))), some (y_bl (m_mi (!decide (lw = 0) && (r_may lw o k && r_may lw true bg)) (y_mJ m 9 (ix + 2 * o.toNat + 1)) (m_mi (r_may lw o k && r_may lw false bg) (y_mJ m 9 (ix + 2 * o.toNat + 0)) v))), none, some (y_bi (n_b o + 1)), none] [] m := by
  have l0 : 2 * o.toNat < 4 := by cases o <;> decide
  have l1 : 2 * o.toNat + 1 < 4 := by cases o <;> decide
  have c0 := hc _ l0
  have c1 := hc _ l1
  rw [← Nat.add_assoc] at c1
  have a := l_118i (sp := sp) (ph := ph) (d := d) (m := m) (b := b) (lw := lw) (ix := ix) (k := k) (bg := bg) (o := o) (h := false) (v := v) (top := n_b (!decide (lw = 0))) hw hlw hix (by cases decide (lw = 0) <;> decide) hv c0
  rw [y_E_118_29, if_neg ht]
  refine (show _ = _ from a).trans ?_
  have hv2 := m_mi_rg (p := r_may lw o k && r_may lw false bg) c0 hv
  show y_R sp ph (d + 1) 118 39 [some (y_bo 2 0 8), some (y_bo 0 0 b), none, none, some (y_bi (n_b k)), some (y_bi (n_b bg)), some (y_bi (ix : Int)), some (y_bi (n_b (!decide (lw = 0)))), some (y_bl (m_mi (r_may lw o k && r_may lw false bg) (y_mJ m 9 (ix + 2 * o.toNat + 0)) v)), none, some (y_bi (n_b o)), some (y_bi (n_b false + 1))] [] m = _
  generalize m_mi (r_may lw o k && r_may lw false bg) (y_mJ m 9 (ix + 2 * o.toNat + 0)) v = v2 at *
  cases hz : decide (lw = 0)
  · have e := l_118i (sp := sp) (ph := ph) (d := d) (m := m) (b := b) (lw := lw) (ix := ix) (k := k) (bg := bg) (o := o) (h := true) (v := v2) (top := n_b (!false)) hw hlw hix (by decide) hv2 c1
    refine (show _ = _ from e).trans ?_
    rw [y_E_118_39, if_pos (by decide), y_E_118_98]
    rfl
  · rw [y_E_118_39, if_pos (by decide), y_E_118_98]
    rfl
end Solve
