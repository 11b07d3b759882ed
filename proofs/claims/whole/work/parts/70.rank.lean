/-! ===== how many lawful rounds ===== -/
def c_P (a k : Nat) : Prop := a = 7 ∨ (a = 6 ∧ (k = 1 ∨ k = 2 ∨ k = 3 ∨ k = 4))
theorem c_Cy_F {P : Nat → Nat → Prop} {m m' : y_m} {b L R lw s : Nat} (h : c_Cy m b L R lw s) (hF : q_F P m m') (h7 : ∀ k, ¬ P 7 k) (hb : ∀ k, ¬ P b k) (h6 : ¬ P 6 2) : c_Cy m' b L R lw s := by
  obtain ⟨g1, g2, g3, g4, g5, g6, g7, g10⟩ := h
  exact ⟨by rw [q_F_I hF b 0 (hb 0)]; exact g1, by rw [q_F_I hF b 5 (hb 5)]; exact g2, g3, g4, g5, fun i hi => by rw [q_F_J hF 7 i (h7 i)]; exact g6 i hi, by rw [q_F_I hF 6 2 h6]; exact g7, g10⟩
theorem c_Cx_F {P : Nat → Nat → Prop} {m m' : y_m} {b L R lw s sec : Nat} {first : Bool} (h : c_Cx m b L R lw s sec first) (hF : q_F P m m') (h7 : ∀ k, ¬ P 7 k) (hb : ∀ k, ¬ P b k) (h6 : ∀ k, ¬ P 6 k) : c_Cx m' b L R lw s sec first := by
  obtain ⟨g1, g2, g3, g4, g5, g6, g7, g8, g9, g10, g11⟩ := h
  exact ⟨by rw [q_F_I hF b 0 (hb 0)]; exact g1, by rw [q_F_I hF b 5 (hb 5)]; exact g2, g3, g4, g5, fun i hi => by rw [q_F_J hF 7 i (h7 i)]; exact g6 i hi, by rw [q_F_I hF 6 2 (h6 2)]; exact g7, by rw [q_F_I hF 6 3 (h6 3)]; exact g8, by rw [q_F_I hF 6 4 (h6 4)]; exact g9, g10, g11⟩
section Rank
variable {sp : Nat → Nat} {ph : Bool} {d : Nat} {m : y_m} {b L R lw s sec : Nat} {first : Bool}
theorem l_91 {rest : Nat} (hb : b ≠ 6) (hr : rest < 4096) (hR : ∀ j, rest.testBit j = true → j < L + R) : ∀ (n h : Nat) (acc : Int) (m : y_m), h + n = 12 → c_Cy m b L R lw s → ∃ m', y_R sp ph (d + 5) 91 13 [some (y_bo 1 0 6), some (y_bo 0 0 b), none, some (y_bi (rest : Int)), some (y_bl acc), none, some (y_bi (h : Int))] [] m = y_rL (acc + q_S (c_f1 L lw s rest) h n) m' ∧ q_F (fun a k => a = 6 ∧ (k = 3 ∨ k = 4)) m m' ∧ c_Cy m' b L R lw s := by
  intro n
  induction n with
  | zero =>
    intro h acc m hh hc
    have : h = 12 := by omega
    subst this
    refine ⟨m, ?_, q_F_refl, hc⟩
    rw [y_E_91_13]
    simp (disch := omega) only [z_w_id, if_pos, if_neg, e_g, e_bI, e_bV, e_bL, e_II, e_II', e_IJ, e_JI, e_JJ, e_JJ', reduceIte, not_true_eq_false, not_false_eq_true, true_or, or_true, true_and, and_true, e_nb0, e_gT, y_E_91_44, q_S, Int.add_zero]
  | succ n ih =>
    intro h acc m hh hc
    obtain ⟨m1, a1, a2, a3⟩ := s_96b (sp := sp) (ph := ph) (d := d + 1) (h := h) hb hc (by omega) hr hR
    obtain ⟨m2, b1, b2, b3⟩ := ih (h + 1) (acc + c_f1 L lw s rest h) m1 (by omega) a3
    refine ⟨m2, ?_, q_F_trans a2 b2, b3⟩
    rw [y_E_91_13]
    simp (disch := omega) only [z_w_id, if_pos, if_neg, e_g, e_bI, e_bV, e_bL, e_II, e_II', e_IJ, e_JI, e_JJ, e_JJ', reduceIte, not_true_eq_false, not_false_eq_true, true_or, or_true, true_and, and_true, e_nb0, e_gT, hc.2.2.2.2.2.2.1, a1, q_S]
    rw [← Int.add_assoc]
    exact b1
theorem w_rm_low {S : Nat} (hS' : S < 4096) : w_rm S (n_low S) < 4096 := Nat.lt_of_le_of_lt (w_rm_le _ _) hS'
theorem w_rm_in {S h n : Nat} (hS : ∀ j, S.testBit j = true → j < n) : ∀ j, (w_rm S h).testBit j = true → j < n := fun j hj => hS j (by rw [w_rm_bit] at hj; exact (Bool.and_eq_true _ _ ▸ hj).1)
theorem s_94y {S : Nat} (hb : b ≠ 6) (hb7 : b ≠ 7) (hL : y_mI m b 0 = (L : Int)) (hw : y_mI m b 5 = (lw : Int)) (h6 : L ≤ 6) (hR6 : R ≤ 6) (h2 : lw ≤ 2) (hS' : S < 4096) (hS0 : 0 < S) (hW : c_Ws m) : ∃ m', y_V sp ph (d + 5) 94 [y_bo 1 0 6, y_bo 0 0 b, y_bi (S : Int)] m = y_rI (w_rm S (n_low S) : Int) m' ∧ q_F c_P m m' ∧ y_mI m' 6 1 = lw ∧ c_Cy m' b L R lw (n_low S) := by
  obtain ⟨m1, a1, a2, a3, a4, a5⟩ := s_94 (sp := sp) (ph := ph) (d := d) hb hw h2 hS' hS0 hW
  have lo := w_low hS' hS0
  refine ⟨m1, a1, q_F_mono a2 (fun a k h => by unfold c_P; omega), a3, ?_, ?_, h6, hR6, h2, a4, a5, lo.2.1⟩
  · rw [q_F_I a2 b 0 (by omega)]; exact hL
  · rw [q_F_I a2 b 5 (by omega)]; exact hw
theorem c_Ws_of {P : Nat → Nat → Prop} {m m' : y_m} (h : c_Cy m' b L R lw s) (hF : q_F P m m') (h1 : ¬ P 6 1) (q : y_mI m 6 1 = (lw : Int)) : c_Ws m' :=
  Or.inr ⟨lw, h.2.2.2.2.1, by rw [q_F_I hF 6 1 h1]; exact q, h.2.2.2.2.2.1⟩
theorem s_91 {S : Nat} (hb : b ≠ 6) (hb7 : b ≠ 7) (hL : y_mI m b 0 = (L : Int)) (hw : y_mI m b 5 = (lw : Int)) (h6 : L ≤ 6) (hR6 : R ≤ 6) (h2 : lw ≤ 2) (hS : ∀ j, S.testBit j = true → j < L + R) (hS' : S < 4096) (hS0 : 0 < S) (hW : c_Ws m) : ∃ m', y_V sp ph (d + 6) 91 [y_bo 1 0 6, y_bo 0 0 b, y_bi (S : Int)] m = y_rL (c_cnt L lw S) m' ∧ q_F c_P m m' ∧ c_Ws m' := by
  obtain ⟨m1, a1, a2, a3, a4⟩ := s_94y (sp := sp) (ph := ph) (d := d) (R := R) hb hb7 hL hw h6 hR6 h2 hS' hS0 hW
  obtain ⟨m2, b1, b2, b3⟩ := l_91 (sp := sp) (ph := ph) (d := d) (rest := w_rm S (n_low S)) hb (w_rm_low hS') (w_rm_in hS) 12 0 0 m1 rfl a4
  refine ⟨m2, ?_, q_F_trans a2 (q_F_mono b2 (fun a k h => by unfold c_P; omega)), c_Ws_of b3 b2 (by omega) a3⟩
  rw [Int.zero_add] at b1
  simp (disch := omega) only [y_C_91, y_E_91_0, z_w_id, if_pos, if_neg, e_g, e_bI, e_bV, e_bL, e_II, e_II', e_IJ, e_JI, e_JJ, e_JJ', reduceIte, not_true_eq_false, not_false_eq_true, true_or, or_true, true_and, and_true, e_nb0, e_gT, a1]
  exact b1
end Rank
