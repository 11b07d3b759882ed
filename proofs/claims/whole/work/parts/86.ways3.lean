section Ways
variable {sp : Nat → Nat} {ph : Bool} {d : Nat} {m : y_m} {L R lw s S fi been idx : Nat} {i f : Bool}
theorem r_wi_ne {b j b' j' : Nat} {i f i' f' : Bool} (hj : j < 12) (hj' : j' < 12) (h : ¬ (b = b' ∧ j = j' ∧ i = i' ∧ f = f')) : r_wi b j i f ≠ r_wi b' j' i' f' := by
  unfold r_wi
  intro e
  refine h ?_
  cases i <;> cases f <;> cases i' <;> cases f' <;> simp at e ⊢ <;> omega
theorem r_ways_sJ {lo j : Nat} {v : Int} (h : r_ways m L lw S fi lo) (hS : S < 4096) (hb : been < lo) (hj : j < 12) : r_ways (y_sJ m 95 (r_wi been j i f) v) L lw S fi lo := by
  intro b1 h1 h2 j1 h3 h4 h5 i1 f1
  have hp := n_pop_le hS
  rw [e_JJ' fun e => r_wi_ne (by omega) hj (fun q => by omega) e.2]
  exact h b1 h1 h2 j1 h3 h4 h5 i1 f1
theorem l_238c (hc : r_Cx m L lw S) (hb : been < 2 ^ (n_pop S - 1)) (hi : idx < n_pop S) (hf : fi < n_pop S) (hw : r_ways m L lw S fi (been + 1)) : y_R sp ph (d + 5) 238 35 [some (y_bo 11 0 49), some (y_bi (fi : Int)), some (y_bi (been : Int)), some (y_bi (idx : Int)), some (y_bi (2 * n_b i + n_b f))] [] m = y_R sp ph (d + 5) 238 35 [some (y_bo 11 0 49), some (y_bi (fi : Int)), some (y_bi (been : Int)), some (y_bi (idx : Int)), some (y_bi (2 * n_b i + n_b f + 1))] [] (y_sJ m 95 (r_wi been idx i f) (r_wv L lw S fi been idx i f)) := by
  obtain ⟨g1, g2, g3, g4, ⟨g5, g6⟩, g7, g8⟩ := id hc
  have hp := n_pop_le g7
  have hpw := r_pw g7
  have wlt := r_wi_lt (i := i) (f := f) (show been < 2048 by omega) (show idx < 12 by omega)
  have t239 := t_239 (sp := sp) (ph := ph) (d := d + 1) (i := i) (f := f) hc hb hi hf hw
  have ew : (((been : Int) * 12 + (idx : Int)) * 4 + 2 * n_b i + n_b f) = (r_wi been idx i f : Int) := by
    unfold r_wi
    rw [n_b_nat, n_b_nat]; omega
  have t236 : y_V sp ph (d + 5) 236 [y_bo 11 0 49, y_bi (been : Int), y_bi (idx : Int), y_bi (n_b i), y_bi (n_b f)] m = y_rI (r_wi been idx i f : Int) m := by
    rw [t_236 (d := d + 4), ew]
  have key : ∀ (w : Nat) (r : y_Rs), w < 98304 → y_g (0 ≤ (w : Int) ∧ (w : Int) < (98304 : Int)) r = r := fun w r h => e_g ⟨by omega, by omega⟩
  generalize r_wv L lw S fi been idx i f = v at *
  generalize r_wi been idx i f = wi at *
  have n0 : n_b false = 0 := rfl
  have n1 : n_b true = 1 := rfl
  rw [y_E_238_35]
  cases i <;> cases f <;> simp only [n0, n1] at t239 t236 ⊢
  · simp (disch := omega) only [z_w_id, if_pos, if_neg, e_g, e_bI, e_bV, e_bL, e_II, e_II', e_IJ, e_JI, e_JJ, e_JJ', reduceIte, not_true_eq_false, not_false_eq_true, true_or, or_true, true_and, and_true, e_nb0, e_gT, y_E_238_58, y_E_238_59, y_E_238_71, y_E_238_72, n_irem, t236, y_E_238_88, y_E_238_89, y_E_238_101]
    rw [y_E_238_102, t239, e_bL, key _ _ wlt, Int.toNat_natCast]
  · simp (disch := omega) only [z_w_id, if_pos, if_neg, e_g, e_bI, e_bV, e_bL, e_II, e_II', e_IJ, e_JI, e_JJ, e_JJ', reduceIte, not_true_eq_false, not_false_eq_true, true_or, or_true, true_and, and_true, e_nb0, e_gT, y_E_238_58, y_E_238_59, y_E_238_71, y_E_238_72, n_irem, t236, y_E_238_88, y_E_238_89, y_E_238_101]
    rw [y_E_238_102, t239, e_bL, key _ _ wlt, Int.toNat_natCast]
  · simp (disch := omega) only [z_w_id, if_pos, if_neg, e_g, e_bI, e_bV, e_bL, e_II, e_II', e_IJ, e_JI, e_JJ, e_JJ', reduceIte, not_true_eq_false, not_false_eq_true, true_or, or_true, true_and, and_true, e_nb0, e_gT, y_E_238_58, y_E_238_59, y_E_238_71, y_E_238_72, n_irem, t236, y_E_238_88, y_E_238_89, y_E_238_101]
    rw [y_E_238_102, t239, e_bL, key _ _ wlt, Int.toNat_natCast]
  · simp (disch := omega) only [z_w_id, if_pos, if_neg, e_g, e_bI, e_bV, e_bL, e_II, e_II', e_IJ, e_JI, e_JJ, e_JJ', reduceIte, not_true_eq_false, not_false_eq_true, true_or, or_true, true_and, and_true, e_nb0, e_gT, y_E_238_58, y_E_238_59, y_E_238_71, y_E_238_72, n_irem, t236, y_E_238_88, y_E_238_89, y_E_238_101]
    rw [y_E_238_102, t239, e_bL, key _ _ wlt, Int.toNat_natCast]
end Ways
