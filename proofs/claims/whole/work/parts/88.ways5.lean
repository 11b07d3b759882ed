section Ways
variable {sp : Nat → Nat} {ph : Bool} {d : Nat} {m : y_m} {L R lw s S fi been idx : Nat} {i f : Bool}
theorem l_238a (hb : been < 2 ^ (n_pop S - 1)) (hf : fi < n_pop S) : ∀ (n j : Nat) (m : y_m), j + n = n_pop S → 1 ≤ j → r_Cx m L lw S → r_ways m L lw S fi (been + 1) → r_row1 m L lw S fi been j → ∃ m', y_R sp ph (d + 5) 238 11 [some (y_bo 11 0 49), some (y_bi (fi : Int)), some (y_bi (been : Int)), some (y_bi (j : Int)), none] [] m = y_R sp ph (d + 5) 238 119 [some (y_bo 11 0 49), some (y_bi (fi : Int)), some (y_bi (been : Int)), none, none] [] m' ∧ q_F (fun a _ => a = 95) m m' ∧ r_Cx m' L lw S ∧ r_ways m' L lw S fi been := by
  intro n
  induction n with
  | zero =>
    intro j m hj h1 hc hw hr
    have hp := n_pop_le hc.2.2.2.2.2.1
    have g5 := hc.2.2.2.2.1.1
    refine ⟨m, ?_, q_F_refl, hc, ?_⟩
    · rw [y_E_238_11]
      simp (disch := omega) only [z_w_id, if_pos, if_neg, e_g, e_bI, e_bV, e_bL, e_II, e_II', e_IJ, e_JI, e_JJ, e_JJ', reduceIte, not_true_eq_false, not_false_eq_true, true_or, or_true, true_and, and_true, e_nb0, e_gT, g5]
    · intro b1 h2 h3 j1 h4 h5 h6 i f
      by_cases q : b1 = been
      · subst q; exact hr j1 h4 (by omega) h6 i f
      · exact hw b1 (by omega) h3 j1 h4 h5 h6 i f
  | succ n ih =>
    intro j m hj h1 hc hw hr
    have hp := n_pop_le hc.2.2.2.2.2.1
    have hpw := r_pw hc.2.2.2.2.2.1
    have g5 := hc.2.2.2.2.1.1
    have e1 : (j : Int) - 1 = ((j - 1 : Nat) : Int) := by omega
    have ej1 : (j : Int) + 1 = ((j + 1 : Nat) : Int) := by omega
    by_cases q : been.testBit (j - 1) = true
    · obtain ⟨m1, a1, a2, a3, a4, a5⟩ := l_238b (sp := sp) (ph := ph) (d := d) hc hb (show j < n_pop S by omega) hf hw hr
      obtain ⟨m2, b1, b2, b3, b4⟩ := ih (j + 1) m1 (by omega) (by omega) a3 a4 a5
      refine ⟨m2, ?_, q_F_trans a2 b2, b3, b4⟩
      rw [y_E_238_11]
      simp (disch := omega) only [z_w_id, if_pos, if_neg, e_g, e_bI, e_bV, e_bL, e_II, e_II', e_IJ, e_JI, e_JJ, e_JJ', reduceIte, not_true_eq_false, not_false_eq_true, true_or, or_true, true_and, and_true, e_nb0, e_gT, g5, e1, n_bit, q, y_E_238_32, a1, y_E_238_113, ej1]
      exact b1
    · obtain ⟨m2, b1, b2, b3, b4⟩ := ih (j + 1) m (by omega) (by omega) hc hw (fun j1 h2 h3 h4 i f => by
        by_cases e : j1 = j
        · subst e; exact absurd h4 q
        · exact hr j1 h2 (by omega) h4 i f)
      refine ⟨m2, ?_, b2, b3, b4⟩
      rw [y_E_238_11]
      simp (disch := omega) only [z_w_id, if_pos, if_neg, e_g, e_bI, e_bV, e_bL, e_II, e_II', e_IJ, e_JI, e_JJ, e_JJ', reduceIte, not_true_eq_false, not_false_eq_true, true_or, or_true, true_and, and_true, e_nb0, e_gT, g5, e1, n_bit, q, y_E_238_113, ej1, Bool.false_eq_true]
      exact b1
theorem l_238 (hf : fi < n_pop S) : ∀ (been : Nat) (m : y_m), been < 2 ^ (n_pop S - 1) → r_Cx m L lw S → r_ways m L lw S fi (been + 1) → ∃ m', y_R sp ph (d + 5) 238 5 [some (y_bo 11 0 49), some (y_bi (fi : Int)), some (y_bi (been : Int)), none, none] [] m = y_rV m' ∧ q_F (fun a _ => a = 95) m m' ∧ r_Cx m' L lw S ∧ r_ways m' L lw S fi 1 := by
  intro been
  induction been with
  | zero =>
    intro m hb hc hw
    refine ⟨m, ?_, q_F_refl, hc, hw⟩
    rw [y_E_238_5]
    simp (disch := omega) only [z_w_id, if_pos, if_neg, e_g, e_bI, e_bV, e_bL, e_II, e_II', e_IJ, e_JI, e_JJ, e_JJ', reduceIte, not_true_eq_false, not_false_eq_true, true_or, or_true, true_and, and_true, e_nb0, e_gT, y_E_238_125]
  | succ been ih =>
    intro m hb hc hw
    have hpw := r_pw hc.2.2.2.2.2.1
    obtain ⟨m1, a1, a2, a3, a4⟩ := l_238a (sp := sp) (ph := ph) (d := d) hb hf (n_pop S - 1) 1 m (by have := hc.2.2.2.2.2.2; omega) (by omega) hc hw (fun j h1 h2 => by omega)
    obtain ⟨m2, b1, b2, b3, b4⟩ := ih m1 (by omega) a3 a4
    refine ⟨m2, ?_, q_F_trans a2 b2, b3, b4⟩
    have a1' : y_R sp ph (d + 5) 238 11 [some (y_bo 11 0 49), some (y_bi (fi : Int)), some (y_bi ((been + 1 : Nat) : Int)), some (y_bi 1), none] [] m = _ := a1
    have e1 : ((been + 1 : Nat) : Int) + -1 = (been : Int) := by omega
    rw [y_E_238_5]
    simp (disch := omega) only [z_w_id, if_pos, if_neg, e_g, e_bI, e_bV, e_bL, e_II, e_II', e_IJ, e_JI, e_JJ, e_JJ', reduceIte, not_true_eq_false, not_false_eq_true, true_or, or_true, true_and, and_true, e_nb0, e_gT, a1', y_E_238_119, e1]
    exact b1
theorem t_238 (hf : fi < n_pop S) (hc : r_Cx m L lw S) : ∃ m', y_V sp ph (d + 6) 238 [y_bo 11 0 49, y_bi (fi : Int)] m = y_rV m' ∧ q_F (fun a _ => a = 95) m m' ∧ r_Cx m' L lw S ∧ r_ways m' L lw S fi 1 := by
  have hp := n_pop_le hc.2.2.2.2.2.1
  have hq : 0 < 2 ^ (n_pop S - 1) := Nat.pow_pos (by decide)
  obtain ⟨m2, b1, b2, b3, b4⟩ := l_238 (sp := sp) (ph := ph) (d := d) hf (2 ^ (n_pop S - 1) - 1) m (by omega) hc (fun b1 h1 h2 => by omega)
  have t237 := t_237 (sp := sp) (ph := ph) (d := d + 4) hc.2.2.2.2.1.1 (by have := hc.2.2.2.2.2.2; omega) hp
  refine ⟨m2, ?_, b2, b3, b4⟩
  generalize 2 ^ (n_pop S - 1) - 1 = al at *
  simp (disch := omega) only [y_C_238, y_E_238_0, z_w_id, if_pos, if_neg, e_g, e_bI, e_bV, e_bL, e_II, e_II', e_IJ, e_JI, e_JJ, e_JJ', reduceIte, not_true_eq_false, not_false_eq_true, true_or, or_true, true_and, and_true, e_nb0, e_gT, t237]
  exact b1
/-- the rounds by a second place -/
theorem t_240 (hc : r_Cx m L lw S) (h1 : 1 ≤ fi) (hf : fi < n_pop S) (hw : r_ways m L lw S fi 1) : y_V sp ph (d + 3) 240 [y_bo 11 0 49, y_bi (fi : Int)] m = y_rL (c_f1 L lw (r_hs S 0) (r_rest S 0) (r_hs S fi)) m := by
  obtain ⟨g1, g2, g3, g4, ⟨g5, g6⟩, g7, g8⟩ := hc
  have hp := n_pop_le g7
  have ei : y_mI m 94 (fi : Int).toNat = (r_hs S fi : Int) := g6 fi hf
  have ei' := g6 fi hf
  have e0 := g6 0 (by omega)
  have h12 := (r_hs_B hf).1
  have h0 := (r_hs_B (S := S) (show 0 < n_pop S by omega)).1
  have e1 : (fi : Int) - 1 = ((fi - 1 : Nat) : Int) := by omega
  have hs1 : 1 <<< (fi - 1) < 2 ^ 11 := by rw [Nat.one_shiftLeft]; exact Nat.pow_lt_pow_right (by decide) (by omega)
  have eb : 0 ||| 1 <<< (fi - 1) = 1 <<< (fi - 1) := Nat.zero_or _
  have hb1 : 1 ≤ 1 <<< (fi - 1) := by rw [Nat.one_shiftLeft]; exact Nat.pow_pos (by decide)
  have hb2 : 1 <<< (fi - 1) < 2 ^ (n_pop S - 1) := by rw [Nat.one_shiftLeft]; exact Nat.pow_lt_pow_right (by decide) (by omega)
  have hb3 : (1 <<< (fi - 1)).testBit (fi - 1) = true := by rw [Nat.one_shiftLeft, Nat.testBit_two_pow]; exact decide_eq_true rfl
  have cell := hw (1 <<< (fi - 1)) hb1 hb2 fi h1 hf hb3 (r_x L (r_hs S 0) (r_hs S fi)) (r_x L (r_hs S 0) (r_hs S fi))
  have eo := r_rest_or (been := 0) g7 h1 hf
  rw [eb] at eo
  have hr := (r_rest_hs (been := 0) g7 h1 hf).mpr (Nat.zero_testBit _)
  have hpp := n_pop_rm (r_rest_lt S 0) hr
  have z : c_f1 L lw (r_hs S 0) (r_rest S 0) (r_hs S fi) = r_wv L lw S fi (1 <<< (fi - 1)) fi (r_x L (r_hs S 0) (r_hs S fi)) (r_x L (r_hs S 0) (r_hs S fi)) := by
    unfold c_f1 r_wv
    rw [if_pos hr, eo, show n_pop (w_rm (r_rest S 0) (r_hs S fi)) = n_pop (r_rest S 0) - 1 by omega]
  have esh : z_ishl 1 ((fi - 1 : Nat) : Int) = ((1 <<< (fi - 1) : Nat) : Int) := by
    rw [show (1 : Int) = ((1 : Nat) : Int) from rfl, n_ishl (by omega) (by omega)]
  have wlt := r_wi_lt (i := r_x L (r_hs S 0) (r_hs S fi)) (f := r_x L (r_hs S 0) (r_hs S fi)) (show 1 <<< (fi - 1) < 2048 from hs1) (show fi < 12 by omega)
  have ew : ((((1 <<< (fi - 1) : Nat) : Int) * (12 : Int) + (fi : Int)) * (4 : Int) + (2 : Int) * n_b (r_x L (r_hs S 0) (r_hs S fi)) + n_b (r_x L (r_hs S 0) (r_hs S fi))) = (r_wi (1 <<< (fi - 1)) fi (r_x L (r_hs S 0) (r_hs S fi)) (r_x L (r_hs S 0) (r_hs S fi)) : Int) := by
    unfold r_wi
    rw [n_b_nat]; omega
  have t236 : y_V sp ph (d + 2) 236 [y_bo 11 0 49, y_bi ((1 <<< (fi - 1) : Nat) : Int), y_bi (fi : Int), y_bi (n_b (r_x L (r_hs S 0) (r_hs S fi))), y_bi (n_b (r_x L (r_hs S 0) (r_hs S fi)))] m = y_rI (r_wi (1 <<< (fi - 1)) fi (r_x L (r_hs S 0) (r_hs S fi)) (r_x L (r_hs S 0) (r_hs S fi)) : Int) m := by
    rw [t_236 (d := d + 1), ew]
  have key : ∀ (w : Nat) (r : y_Rs), w < 98304 → y_g (0 ≤ (w : Int) ∧ (w : Int) < (98304 : Int)) r = r := fun w r h => e_g ⟨by omega, by omega⟩
  rw [z, ← cell]
  generalize r_wi (1 <<< (fi - 1)) fi (r_x L (r_hs S 0) (r_hs S fi)) (r_x L (r_hs S 0) (r_hs S fi)) = wi at *
  simp (disch := omega) only [y_C_240, y_E_240_0, z_w_id, if_pos, if_neg, e_g, e_bI, e_bV, e_bL, e_II, e_II', e_IJ, e_JI, e_JJ, e_JJ', reduceIte, not_true_eq_false, not_false_eq_true, true_or, or_true, true_and, and_true, e_nb0, e_gT, ei, ei', e0, t_211 g1 g3, e1, esh]
  rw [t236, e_bI, key _ _ wlt, Int.toNat_natCast]
end Ways
