section Ways
variable {sp : Nat → Nat} {ph : Bool} {d : Nat} {m : y_m} {L R lw s S fi been idx : Nat} {i f : Bool}
theorem t_239 (hc : r_Cx m L lw S) (hb : been < 2 ^ (n_pop S - 1)) (hi : idx < n_pop S) (hf : fi < n_pop S) (hw : r_ways m L lw S fi (been + 1)) : y_V sp ph (d + 4) 239 [y_bo 11 0 49, y_bi (been : Int), y_bi (idx : Int), y_bi (n_b i), y_bi (n_b f), y_bi (fi : Int)] m = y_rL (r_wv L lw S fi been idx i f) m := by
  have hc' := hc
  obtain ⟨g1, g2, g3, g4, ⟨g5, g6⟩, g7, g8⟩ := hc'
  have hp := n_pop_le g7
  have hpw := r_pw g7
  have hal := r_rest_all g7 (by omega) hb
  have t237 := t_237 (sp := sp) (ph := ph) (d := d + 2) g5 (by omega) hp
  have h1 := (r_hs_B hi).1
  have h0 := (r_hs_B (S := S) (show 0 < n_pop S by omega)).1
  have ei : y_mI m 94 (idx : Int).toNat = (r_hs S idx : Int) := g6 idx hi
  have ei' := g6 idx hi
  have e0 := g6 0 (by omega)
  unfold r_wv
  by_cases q : been = 2 ^ (n_pop S - 1) - 1
  · rw [hal.mpr q, c_N]
    have hlt := r_hs_lt hf hi
    have qi : (been : Int) = ((2 ^ (n_pop S - 1) - 1 : Nat) : Int) := by rw [q]
    generalize 2 ^ (n_pop S - 1) - 1 = al at *
    by_cases c1 : fi < idx
    · have c1' := hlt.mpr c1
      simp only [c1', true_and]
      cases c2 : r_may lw i (r_x L (r_hs S idx) (r_hs S 0))
      · simp (disch := omega) only [y_C_239, y_E_239_0, y_E_239_57, y_E_239_58, z_w_id, if_pos, if_neg, e_g, e_bI, e_bV, e_bL, e_II, e_II', e_IJ, e_JI, e_JJ, e_JJ', reduceIte, not_true_eq_false, not_false_eq_true, true_or, or_true, true_and, and_true, e_nb0, e_gT, t237, ei, ei', e0, t_211 g1 g3, t_227 g2 g4, c2, Bool.false_eq_true, false_and]
      · cases c3 : r_may lw (r_x L (r_hs S idx) (r_hs S 0)) f
        · simp (disch := omega) only [y_C_239, y_E_239_0, y_E_239_57, y_E_239_58, z_w_id, if_pos, if_neg, e_g, e_bI, e_bV, e_bL, e_II, e_II', e_IJ, e_JI, e_JJ, e_JJ', reduceIte, not_true_eq_false, not_false_eq_true, true_or, or_true, true_and, and_true, e_nb0, e_gT, t237, ei, ei', e0, t_211 g1 g3, t_227 g2 g4, c2, c3, Bool.false_eq_true, Bool.true_eq_false, and_false]
        · simp (disch := omega) only [y_C_239, y_E_239_0, y_E_239_57, y_E_239_58, z_w_id, if_pos, if_neg, e_g, e_bI, e_bV, e_bL, e_II, e_II', e_IJ, e_JI, e_JJ, e_JJ', reduceIte, not_true_eq_false, not_false_eq_true, true_or, or_true, true_and, and_true, e_nb0, e_gT, t237, ei, ei', e0, t_211 g1 g3, t_227 g2 g4, c2, c3, Bool.false_eq_true, Bool.true_eq_false, and_self]
    · have c1' : ¬ r_hs S fi < r_hs S idx := fun e => c1 (hlt.mp e)
      rw [if_neg fun e => c1' e.1]
      simp (disch := omega) only [y_C_239, y_E_239_0, y_E_239_57, y_E_239_58, z_w_id, if_pos, if_neg, e_g, e_bI, e_bV, e_bL, e_II, e_II', e_IJ, e_JI, e_JJ, e_JJ', reduceIte, not_true_eq_false, not_false_eq_true, true_or, or_true, true_and, and_true, e_nb0, e_gT, t237, ei, ei', e0, t_211 g1 g3]
  · have hr : 0 < n_pop (r_rest S been) := by
      rcases Nat.eq_zero_or_pos (n_pop (r_rest S been)) with r | r
      · exact absurd (hal.mp r) q
      · exact r
    rw [c_N_ix g7 (by omega) hr]
    have l := l_239 (sp := sp) (ph := ph) (d := d) (i := i) (f := f) hc hb hi hw (n_pop S - 1) 1 0 (by omega) (by omega)
    rw [Int.zero_add] at l
    have l' : y_R sp ph (d + 3) 239 65 [some (y_bo 11 0 49), some (y_bi (been : Int)), some (y_bi (idx : Int)), some (y_bi (n_b i)), some (y_bi (n_b f)), none, some (y_bl 0), none, some (y_bi 1), none] [] m = _ := l
    have hal2 : 2 ^ (n_pop S - 1) - 1 < 2048 := by omega
    generalize 2 ^ (n_pop S - 1) - 1 = al at *
    simp (disch := omega) only [y_C_239, y_E_239_0, y_E_239_59, z_w_id, if_pos, if_neg, e_g, e_bI, e_bV, e_bL, e_II, e_II', e_IJ, e_JI, e_JJ, e_JJ', reduceIte, not_true_eq_false, not_false_eq_true, true_or, or_true, true_and, and_true, e_nb0, e_gT, t237, l']
end Ways
