section Num
variable {sp : Nat → Nat} {ph : Bool} {d : Nat} {m : y_m} {L R lw s S a : Nat} {w : List Nat}
theorem t_249b (hL : y_mI m 52 0 = (L : Int)) (hlw : y_mI m 52 4 = (lw : Int)) (h6 : L ≤ 6) (h2 : lw ≤ 2) (hw : q_V m w) (hne : w ≠ []) (hb : ∀ h ∈ w, h < 12) (hj : q_judge L lw w 0 w.length ≠ -1) : y_V sp ph (d + 7) 249 [y_bo 11 0 49] m = y_rL (-1) (y_sI m 49 0 0) := by
  have hw0 : q_V (y_sI m 49 0 0) w := ⟨by rw [e_II' (by omega)]; exact hw.1, hw.2.1, fun i hi => by rw [e_II' (by omega)]; exact hw.2.2 i hi⟩
  have hL0 : y_mI (y_sI m 49 0 0) 52 0 = (L : Int) := by rw [e_II' (by omega)]; exact hL
  have hlw0 : y_mI (y_sI m 49 0 0) 52 4 = (lw : Int) := by rw [e_II' (by omega)]; exact hlw
  have t230 := t_230a (sp := sp) (ph := ph) (d := d + 4) (m := y_sI m 49 0 0) e_II hw0 hne
  have t229 := t_229 (sp := sp) (ph := ph) (d := d + 2) hw0 hne hb hL0 h6 hlw0 h2
  have := q_judge_r (L := L) (lw := lw) hb w.length 0 (by omega)
  simp (disch := omega) only [y_C_249, y_E_249_0, y_E_249_14, z_w_id, if_pos, if_neg, e_g, e_bI, e_bV, e_bL, e_II, e_II', e_IJ, e_JI, e_JJ, e_JJ', reduceIte, not_true_eq_false, not_false_eq_true, true_or, or_true, true_and, and_true, e_nb0, e_gT, t230, t229]
theorem t_249c (hw : q_V m []) : y_V sp ph (d + 7) 249 [y_bo 11 0 49] m = y_rL 0 (y_sI (y_sI m 49 0 0) 49 0 1) := by
  have hw0 : q_V (y_sI m 49 0 0) [] := ⟨by rw [e_II' (by omega)]; exact hw.1, hw.2.1, fun i hi => absurd hi (Nat.not_lt_zero _)⟩
  have t230 := t_230b (sp := sp) (ph := ph) (d := d + 4) (m := y_sI m 49 0 0) e_II hw0
  simp (disch := omega) only [y_C_249, y_E_249_0, z_w_id, if_pos, if_neg, e_g, e_bI, e_bV, e_bL, e_II, e_II', e_IJ, e_JI, e_JJ, e_JJ', reduceIte, not_true_eq_false, not_false_eq_true, true_or, or_true, true_and, and_true, e_nb0, e_gT, t230]
theorem l_196 (ha : a ≠ 54) (ha' : a ≠ 49) (hw : w.length ≤ 12) : ∀ (n j : Nat) (m : y_m), j + n = w.length → (∀ i, i < w.length → y_mI m a i = ((w.getD i 0 : Nat) : Int)) → (∀ i, i < j → y_mI m 54 i = ((w.getD i 0 : Nat) : Int)) → ∃ m', y_R sp ph d 196 2 [some (y_bo 11 0 49), some (y_bo 100 12 a), some (y_bi (w.length : Int)), some (y_bi (j : Int))] [] m = y_rV m' ∧ q_F (fun x k => x = 54 ∨ (x = 49 ∧ k = 13)) m m' ∧ q_V m' w := by
  intro n
  induction n with
  | zero =>
    intro j m h hA hO
    refine ⟨y_sI m 49 13 w.length, ?_, q_F_sI (by omega), e_II, hw, fun i hi => by rw [e_II' (by omega)]; exact hO i (by omega)⟩
    rw [y_E_196_2]
    simp (disch := omega) only [z_w_id, if_pos, if_neg, e_g, e_bI, e_bV, e_bL, e_II, e_II', e_IJ, e_JI, e_JJ, e_JJ', reduceIte, not_true_eq_false, not_false_eq_true, true_or, or_true, true_and, and_true, e_nb0, e_gT, y_E_196_22]
  | succ n ih =>
    intro j m h hA hO
    have hF : q_F (fun x k => x = 54 ∨ (x = 49 ∧ k = 13)) m (y_sI m 54 j ((w.getD j 0 : Nat) : Int)) := q_F_sI (by omega)
    obtain ⟨m2, b1, b2, b3⟩ := ih (j + 1) (y_sI m 54 j ((w.getD j 0 : Nat) : Int)) (by omega) (fun i hi => by rw [e_II' (by omega)]; exact hA i hi) (fun i hi => by
      by_cases q : i = j
      · subst q; rw [e_II]
      · rw [e_II' (by omega)]; exact hO i (by omega))
    refine ⟨m2, ?_, q_F_trans hF b2, b3⟩
    have ej := hA j (by omega)
    rw [← b1, y_E_196_2]
    simp (disch := omega) only [z_w_id, if_pos, if_neg, e_g, e_bI, e_bV, e_bL, e_II, e_II', e_IJ, e_JI, e_JJ, e_JJ', reduceIte, not_true_eq_false, not_false_eq_true, true_or, or_true, true_and, and_true, e_nb0, e_gT, Int.toNat_natCast, ej]
    rfl
theorem t_196 (ha : a ≠ 54) (ha' : a ≠ 49) (hw : w.length ≤ 12) (hA : ∀ i, i < w.length → y_mI m a i = ((w.getD i 0 : Nat) : Int)) : ∃ m', y_V sp ph (d + 1) 196 [y_bo 11 0 49, y_bo 100 12 a, y_bi (w.length : Int)] m = y_rV m' ∧ q_F (fun x k => x = 54 ∨ (x = 49 ∧ k = 13)) m m' ∧ q_V m' w := by
  obtain ⟨m2, b1, b2, b3⟩ := l_196 (sp := sp) (ph := ph) (d := d) ha ha' hw w.length 0 m (by omega) hA (fun i hi => absurd hi (Nat.not_lt_zero _))
  refine ⟨m2, ?_, b2, b3⟩
  simp (disch := omega) only [y_C_196, y_E_196_0, z_w_id, if_pos, if_neg, e_g, e_bI, e_bV, e_bL, e_II, e_II', e_IJ, e_JI, e_JJ, e_JJ', reduceIte, not_true_eq_false, not_false_eq_true, true_or, or_true, true_and, and_true, e_nb0, e_gT]
  exact b1
end Num
