section Num
variable {sp : Nat → Nat} {ph : Bool} {d : Nat} {m : y_m} {L R lw s S fi been idx : Nat} {i f : Bool} {w : List Nat}
theorem l_249c {x8 x9 : Nat} (hc : r_Cx m L lw S) (hb : been < 2 ^ (n_pop S - 1)) (hi : idx < n_pop S) (h9 : x9 < n_pop S) (hw : r_ways m L lw S fi 1) : ∀ (n j : Nat) (acc : Int), j + n = x9 → 1 ≤ j → y_R sp ph (d + 3) 249 155 [some (y_bo 11 0 49), none, some (y_bi (been : Int)), some (y_bi (idx : Int)), some (y_bl acc), none, some (y_bi (n_b i)), some (y_bi (n_b f)), some (y_bi (x8 : Int)), some (y_bi (x9 : Int)), some (y_bi (j : Int)), none] [] m = y_R sp ph (d + 3) 249 237 [some (y_bo 11 0 49), none, some (y_bi (been : Int)), some (y_bi (idx : Int)), some (y_bl (acc + q_S (fun j => c_f2 L lw (r_hs S 0) (r_hs S fi) f (r_rest S been) (r_hs S idx) i (r_hs S j)) j n)), none, none, some (y_bi (n_b f)), some (y_bi (x8 : Int)), some (y_bi (x9 : Int)), none, none] [] m := by
  obtain ⟨g1, g2, g3, g4, ⟨g5, g6⟩, g7, g8⟩ := hc
  have hp := n_pop_le g7
  have hpw := r_pw g7
  have h1 := (r_hs_B hi).1
  have ei : y_mI m 94 (idx : Int).toNat = (r_hs S idx : Int) := g6 idx hi
  have ei' := g6 idx hi
  intro n
  induction n with
  | zero =>
    intro j acc hj h1j
    rw [y_E_249_155]
    simp (disch := omega) only [z_w_id, if_pos, if_neg, e_g, e_bI, e_bV, e_bL, e_II, e_II', e_IJ, e_JI, e_JJ, e_JJ', reduceIte, not_true_eq_false, not_false_eq_true, true_or, or_true, true_and, and_true, e_nb0, e_gT, q_S, Int.add_zero]
  | succ n ih =>
    intro j acc hj h1j
    have hjk : j < n_pop S := by omega
    have h2 := (r_hs_B hjk).1
    have ej : y_mI m 94 (j : Int).toNat = (r_hs S j : Int) := g6 j hjk
    have ej' := g6 j hjk
    have e1 : (j : Int) - 1 = ((j - 1 : Nat) : Int) := by omega
    have ej1 : (j : Int) + 1 = ((j + 1 : Nat) : Int) := by omega
    have nx := ih (j + 1) (acc + c_f2 L lw (r_hs S 0) (r_hs S fi) f (r_rest S been) (r_hs S idx) i (r_hs S j)) (by omega) (by omega)
    rw [y_E_249_155, q_S, ← Int.add_assoc, ← nx]
    have hbit := r_rest_hs (been := been) g7 h1j hjk
    by_cases q : been.testBit (j - 1) = true
    · have z : c_f2 L lw (r_hs S 0) (r_hs S fi) f (r_rest S been) (r_hs S idx) i (r_hs S j) = 0 := c_f2_0 _ fun e => by
        have := hbit.mp e
        rw [q] at this; cases this
      rw [z, Int.add_zero]
      simp (disch := omega) only [z_w_id, if_pos, if_neg, e_g, e_bI, e_bV, e_bL, e_II, e_II', e_IJ, e_JI, e_JJ, e_JJ', reduceIte, not_true_eq_false, not_false_eq_true, true_or, or_true, true_and, and_true, e_nb0, e_gT, g5, ei, ej, ei', ej', Bool.false_eq_true, Bool.true_eq_false, t_211 g1 g3, e1, n_bit, q, y_E_249_231, ej1]
    · have q' : been.testBit (j - 1) = false := by
        cases r : been.testBit (j - 1)
        · rfl
        · exact absurd r q
      have hr := hbit.mpr q'
      by_cases c : r_may lw i (r_x L (r_hs S idx) (r_hs S j)) = true
      · obtain ⟨o1, o2, o3⟩ := n_or_bit (by omega) (by omega) h1j q'
        have hp2 := n_pop_rm (r_rest_lt S been) hr
        have eo := r_rest_or (been := been) g7 h1j hjk
        have olt : been ||| 1 <<< (j - 1) < 2 ^ (n_pop S - 1) := Nat.or_lt_two_pow hb (by rw [Nat.one_shiftLeft]; exact Nat.pow_lt_pow_right (by decide) (by omega))
        have cell := hw (been ||| 1 <<< (j - 1)) (by omega) olt j h1j hjk o3 (r_x L (r_hs S idx) (r_hs S j)) f
        have z : c_f2 L lw (r_hs S 0) (r_hs S fi) f (r_rest S been) (r_hs S idx) i (r_hs S j) = r_wv L lw S fi (been ||| 1 <<< (j - 1)) j (r_x L (r_hs S idx) (r_hs S j)) f := by
          unfold c_f2 r_wv
          rw [if_pos ⟨hr, c⟩, eo, show n_pop (w_rm (r_rest S been) (r_hs S j)) = n_pop (r_rest S been) - 1 by omega]
        have eor : z_ior (been : Int) (z_ishl 1 ((j - 1 : Nat) : Int)) = ((been ||| 1 <<< (j - 1) : Nat) : Int) := by
          have hs1 : 1 <<< (j - 1) < 2 ^ 11 := by rw [Nat.one_shiftLeft]; exact Nat.pow_lt_pow_right (by decide) (by omega)
          rw [show (1 : Int) = ((1 : Nat) : Int) from rfl, n_ishl (by omega) (by omega), n_ior (by omega) (by omega)]
        have wlt := r_wi_lt (i := r_x L (r_hs S idx) (r_hs S j)) (f := f) o1 (show j < 12 by omega)
        have ew : ((((been ||| 1 <<< (j - 1) : Nat) : Int) * (12 : Int) + (j : Int)) * (4 : Int) + (2 : Int) * n_b (r_x L (r_hs S idx) (r_hs S j)) + n_b f) = (r_wi (been ||| 1 <<< (j - 1)) j (r_x L (r_hs S idx) (r_hs S j)) f : Int) := by
          unfold r_wi
          rw [n_b_nat, n_b_nat]; omega
        have t236 : y_V sp ph (d + 3) 236 [y_bo 11 0 49, y_bi ((been ||| 1 <<< (j - 1) : Nat) : Int), y_bi (j : Int), y_bi (n_b (r_x L (r_hs S idx) (r_hs S j))), y_bi (n_b f)] m = y_rI (r_wi (been ||| 1 <<< (j - 1)) j (r_x L (r_hs S idx) (r_hs S j)) f : Int) m := by
          rw [t_236 (d := d + 2), ew]
        have key : ∀ (w : Nat) (r : y_Rs), w < 98304 → y_g (0 ≤ (w : Int) ∧ (w : Int) < (98304 : Int)) r = r := fun w r h => e_g ⟨by omega, by omega⟩
        have k12 : ∀ (w : Nat) (r : y_Rs), w < 12 → y_g (0 ≤ (w : Int) ∧ (w : Int) < (12 : Int)) r = r := fun w r h => e_g ⟨by omega, by omega⟩
        rw [z, ← cell]
        generalize r_wi (been ||| 1 <<< (j - 1)) j (r_x L (r_hs S idx) (r_hs S j)) f = wi at wlt t236 ⊢
        have hi12 : idx < 12 := by omega
        have hj12 : j < 12 := by omega
        simp (disch := first | assumption | omega) only [z_w_id, if_pos, if_neg, e_bI, reduceIte, not_true_eq_false, not_false_eq_true, e_nb0, k12, key, g5, ei, ej, ei', ej', Bool.false_eq_true, Bool.true_eq_false, t_211 g1 g3, e1, n_bit, q', t_227 g2 g4, c, eor]
        rw [t236, e_bI, key _ _ wlt, Int.toNat_natCast, y_E_249_231, ej1]
      · have z : c_f2 L lw (r_hs S 0) (r_hs S fi) f (r_rest S been) (r_hs S idx) i (r_hs S j) = 0 := by
          unfold c_f2
          rw [if_neg fun e => c e.2]
        rw [z, Int.add_zero]
        simp (disch := omega) only [z_w_id, if_pos, if_neg, e_g, e_bI, e_bV, e_bL, e_II, e_II', e_IJ, e_JI, e_JJ, e_JJ', reduceIte, not_true_eq_false, not_false_eq_true, true_or, or_true, true_and, and_true, e_nb0, e_gT, g5, ei, ej, ei', ej', Bool.false_eq_true, Bool.true_eq_false, t_211 g1 g3, e1, n_bit, q', t_227 g2 g4, e_nb0, c, y_E_249_231, ej1]
end Num
