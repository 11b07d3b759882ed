section Finds
variable {sp : Nat → Nat} {ph : Bool} {d : Nat} {m : y_m} {L R lw s S : Nat}
theorem l_244a : ∀ (n j : Nat) (left : Int) (m : y_m), j + n = n_pop S → 1 ≤ j → 0 ≤ left → left < 9223372036854775808 → r_Cx m L lw S → ∃ m', y_R sp ph (d + 6) 244 19 [some (y_bo 11 0 49), none, none, none, some (y_bl left), none, some (y_bi (j : Int)), none, none, none, none, none, none, none, none, none] [] m = y_R sp ph (d + 6) 244 66 [some (y_bo 11 0 49), none, none, none, some (y_bl (c_pk (fun j => c_f1 L lw (r_hs S 0) (r_rest S 0) (r_hs S j)) n j left).2), none, some (y_bi ((c_pk (fun j => c_f1 L lw (r_hs S 0) (r_rest S 0) (r_hs S j)) n j left).1 : Int)), none, none, none, none, none, none, none, none, none] [] m' ∧ q_F (fun a _ => a = 95) m m' ∧ r_Cx m' L lw S ∧ ((c_pk (fun j => c_f1 L lw (r_hs S 0) (r_rest S 0) (r_hs S j)) n j left).1 < n_pop S → r_ways m' L lw S (c_pk (fun j => c_f1 L lw (r_hs S 0) (r_rest S 0) (r_hs S j)) n j left).1 1) := by
  intro n
  induction n with
  | zero =>
    intro j left m hj h1 h0 hl hc
    have hp := n_pop_le hc.2.2.2.2.2.1
    have g5 := hc.2.2.2.2.1.1
    rw [c_pk]
    refine ⟨m, ?_, q_F_refl, hc, fun q => absurd q (by dsimp only; omega)⟩
    rw [y_E_244_19]
    simp (disch := omega) only [z_w_id, if_pos, if_neg, e_g, e_bI, e_bV, e_bL, e_II, e_II', e_IJ, e_JI, e_JJ, e_JJ', reduceIte, not_true_eq_false, not_false_eq_true, true_or, or_true, true_and, and_true, e_nb0, e_gT, g5]
  | succ n ih =>
    intro j left m hj h1 h0 hl hc
    have hp := n_pop_le hc.2.2.2.2.2.1
    have g5 := hc.2.2.2.2.1.1
    obtain ⟨m1, a1, a2, a3, a4⟩ := t_238 (sp := sp) (ph := ph) (d := d) (fi := j) (by omega) hc
    have t240 := t_240 (sp := sp) (ph := ph) (d := d + 3) a3 h1 (show j < n_pop S by omega) a4
    have bd := c_f1_b (L := L) (lw := lw) (s := r_hs S 0) (r_rest_lt S 0) (r_hs S j)
    rw [c_pk]
    by_cases c : left < c_f1 L lw (r_hs S 0) (r_rest S 0) (r_hs S j)
    · rw [if_pos c]
      refine ⟨m1, ?_, a2, a3, fun _ => a4⟩
      rw [y_E_244_19]
      simp (disch := omega) only [z_w_id, if_pos, if_neg, e_g, e_bI, e_bV, e_bL, e_II, e_II', e_IJ, e_JI, e_JJ, e_JJ', reduceIte, not_true_eq_false, not_false_eq_true, true_or, or_true, true_and, and_true, e_nb0, e_gT, g5, a1, t240, n_lc_ge]
    · rw [if_neg c]
      obtain ⟨m2, b1, b2, b3, b4⟩ := ih (j + 1) (left - c_f1 L lw (r_hs S 0) (r_rest S 0) (r_hs S j)) m1 (by omega) (by omega) (by omega) (by omega) a3
      refine ⟨m2, ?_, q_F_trans a2 b2, b3, b4⟩
      rw [← b1, y_E_244_19]
      simp (disch := omega) only [z_w_id, if_pos, if_neg, e_g, e_bI, e_bV, e_bL, e_II, e_II', e_IJ, e_JI, e_JJ, e_JJ', reduceIte, not_true_eq_false, not_false_eq_true, true_or, or_true, true_and, and_true, e_nb0, e_gT, g5, a1, t240, n_lc_ge, y_E_244_49]
      rfl
end Finds
