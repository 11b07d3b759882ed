section Finds
variable {sp : Nat → Nat} {ph : Bool} {d : Nat} {m : y_m} {L R lw s S fi been idx : Nat} {i f : Bool}
theorem l_244c {x11 : Nat} (hc : r_Cx m L lw S) (hb : been < 2 ^ (n_pop S - 1)) (hi : idx < n_pop S) (h11 : x11 < 12) (hw : r_ways m L lw S fi 1) : ∀ (n j : Nat) (left : Int), j + n = n_pop S → 1 ≤ j → 0 ≤ left → left < 9223372036854775808 → (c_pk (fun j => c_f2 L lw (r_hs S 0) (r_hs S fi) f (r_rest S been) (r_hs S idx) i (r_hs S j)) n j left).1 < n_pop S → ∃ p l, c_pk (fun j => c_f2 L lw (r_hs S 0) (r_hs S fi) f (r_rest S been) (r_hs S idx) i (r_hs S j)) n j left = (p, l) ∧ y_R sp ph (d + 3) 244 152 [some (y_bo 11 0 49), none, none, none, some (y_bl left), none, none, some (y_bi (been : Int)), some (y_bi (idx : Int)), some (y_bi (n_b i)), some (y_bi (n_b f)), some (y_bi (x11 : Int)), some (y_bi (j : Int)), none, none, none] [] m = y_R sp ph (d + 3) 244 294 [some (y_bo 11 0 49), none, none, none, some (y_bl l), none, none, some (y_bi ((been ||| 1 <<< (p - 1) : Nat) : Int)), some (y_bi (p : Int)), some (y_bi (n_b (r_x L (r_hs S idx) (r_hs S p)))), some (y_bi (n_b f)), some (y_bi (x11 : Int)), none, none, none, none] [] (y_sI m 97 x11 (r_hs S p)) := by
  obtain ⟨g1, g2, g3, g4, ⟨g5, g6⟩, g7, g8⟩ := hc
  have hp := n_pop_le g7
  have hpw := r_pw g7
  have h1 := (r_hs_B hi).1
  have ei : y_mI m 94 (idx : Int).toNat = (r_hs S idx : Int) := g6 idx hi
  have ei' := g6 idx hi
  intro n
  induction n with
  | zero =>
    intro j left hj h1j h0 hl hp1
    rw [c_pk] at hp1
    exact absurd hp1 (by dsimp only; omega)
  | succ n ih =>
    intro j left hj h1j h0 hl hp1
    have hjk : j < n_pop S := by omega
    have h2 := (r_hs_B hjk).1
    have ej : y_mI m 94 (j : Int).toNat = (r_hs S j : Int) := g6 j hjk
    have ej' := g6 j hjk
    have e1 : (j : Int) - 1 = ((j - 1 : Nat) : Int) := by omega
    have ej1 : (j : Int) + 1 = ((j + 1 : Nat) : Int) := by omega
    have bd := c_f2_b (L := L) (lw := lw) (s := r_hs S 0) (sec := r_hs S fi) (first := f) (last := r_hs S idx) (i := i) (r_rest_lt S been) (r_hs S j)
    rw [c_pk] at hp1 ⊢
    rw [y_E_244_152]
    have hbit := r_rest_hs (been := been) g7 h1j hjk
    by_cases q : been.testBit (j - 1) = true
    · have z : c_f2 L lw (r_hs S 0) (r_hs S fi) f (r_rest S been) (r_hs S idx) i (r_hs S j) = 0 := c_f2_0 _ fun e => by
        have := hbit.mp e
        rw [q] at this; cases this
      rw [z, if_neg (by omega), Int.sub_zero] at hp1 ⊢
      obtain ⟨p, l, x1, x2⟩ := ih (j + 1) left (by omega) (by omega) h0 hl hp1
      refine ⟨p, l, x1, ?_⟩
      rw [← x2]
      simp (disch := omega) only [z_w_id, if_pos, if_neg, e_g, e_bI, e_bV, e_bL, e_II, e_II', e_IJ, e_JI, e_JJ, e_JJ', reduceIte, not_true_eq_false, not_false_eq_true, true_or, or_true, true_and, and_true, e_nb0, e_gT, g5, ei, ej, ei', ej', Bool.false_eq_true, Bool.true_eq_false, t_211 g1 g3, e1, n_bit, q, y_E_244_288, ej1]
    · have q' : been.testBit (j - 1) = false := by
        cases r : been.testBit (j - 1)
        · rfl
        · exact absurd r q
      have hr := hbit.mpr q'
      by_cases c : r_may lw i (r_x L (r_hs S idx) (r_hs S j)) = true
      · obtain ⟨o1, o2, o3⟩ := n_or_bit (by omega) (by omega) h1j q'
        have hp2 := n_pop_rm (r_rest_lt S been) hr
        have eo := r_rest_or (been := been) g7 h1j hjk
        have olt : been ||| 1 <<< (j - 1) < 2 ^ (n_pop S - 1) := Nat.or_lt_two_pow hb (by rw [Nat.one_shiftLeft]; exact Nat.pow_lt_pow_right (by decide) (by omega))
        have cell := hw (been ||| 1 <<< (j - 1)) (by omega) olt j h1j hjk o3 (r_x L (r_hs S idx) (r_hs S j)) f
        have z : c_f2 L lw (r_hs S 0) (r_hs S fi) f (r_rest S been) (r_hs S idx) i (r_hs S j) = r_wv L lw S fi (been ||| 1 <<< (j - 1)) j (r_x L (r_hs S idx) (r_hs S j)) f := by
          unfold c_f2 r_wv
          rw [if_pos ⟨hr, c⟩, eo, show n_pop (w_rm (r_rest S been) (r_hs S j)) = n_pop (r_rest S been) - 1 by omega]
        have eor : z_ior (been : Int) (z_ishl 1 ((j - 1 : Nat) : Int)) = ((been ||| 1 <<< (j - 1) : Nat) : Int) := by
          have hs1 : 1 <<< (j - 1) < 2 ^ 11 := by rw [Nat.one_shiftLeft]; exact Nat.pow_lt_pow_right (by decide) (by omega)
          rw [show (1 : Int) = ((1 : Nat) : Int) from rfl, n_ishl (by omega) (by omega), n_ior (by omega) (by omega)]
        have wlt := r_wi_lt (i := r_x L (r_hs S idx) (r_hs S j)) (f := f) o1 (show j < 12 by omega)
        have ew : ((((been ||| 1 <<< (j - 1) : Nat) : Int) * (12 : Int) + (j : Int)) * (4 : Int) + (2 : Int) * n_b (r_x L (r_hs S idx) (r_hs S j)) + n_b f) = (r_wi (been ||| 1 <<< (j - 1)) j (r_x L (r_hs S idx) (r_hs S j)) f : Int) := by
          unfold r_wi
          rw [n_b_nat, n_b_nat]; omega
        have t236 : y_V sp ph (d + 3) 236 [y_bo 11 0 49, y_bi ((been ||| 1 <<< (j - 1) : Nat) : Int), y_bi (j : Int), y_bi (n_b (r_x L (r_hs S idx) (r_hs S j))), y_bi (n_b f)] m = y_rI (r_wi (been ||| 1 <<< (j - 1)) j (r_x L (r_hs S idx) (r_hs S j)) f : Int) m := by
          rw [t_236 (d := d + 2), ew]
        have key : ∀ (w : Nat) (r : y_Rs), w < 98304 → y_g (0 ≤ (w : Int) ∧ (w : Int) < (98304 : Int)) r = r := fun w r h => e_g ⟨by omega, by omega⟩
        have k12 : ∀ (w : Nat) (r : y_Rs), w < 12 → y_g (0 ≤ (w : Int) ∧ (w : Int) < (12 : Int)) r = r := fun w r h => e_g ⟨by omega, by omega⟩
        have hi12 : idx < 12 := by omega
        have hj12 : j < 12 := by omega
        have hcell := z.trans cell.symm
        rw [hcell] at hp1 bd ⊢
        generalize r_wi (been ||| 1 <<< (j - 1)) j (r_x L (r_hs S idx) (r_hs S j)) f = wi at wlt t236 hp1 bd hcell ⊢
        by_cases k : left < y_mJ m 95 wi
        · rw [if_pos k]
          refine ⟨j, left, rfl, ?_⟩
          simp (disch := first | assumption | omega) only [z_w_id, if_pos, if_neg, e_bI, reduceIte, not_true_eq_false, not_false_eq_true, e_nb0, k12, g5, ei, ej, ei', ej', Bool.false_eq_true, Bool.true_eq_false, t_211 g1 g3, e1, n_bit, q', t_227 g2 g4, c, y_E_244_208, eor]
          rw [t236, e_bI, key _ _ wlt, Int.toNat_natCast]
          simp (disch := first | assumption | omega) only [n_lc_lt, if_pos, y_E_244_252, k12, ej, ej', e1, eor, Int.toNat_natCast]
        · rw [if_neg k] at hp1 ⊢
          obtain ⟨p, l, x1, x2⟩ := ih (j + 1) (left - y_mJ m 95 wi) (by omega) (by omega) (by omega) (by omega) hp1
          refine ⟨p, l, x1, ?_⟩
          rw [← x2]
          simp (disch := first | assumption | omega) only [z_w_id, if_pos, if_neg, e_bI, reduceIte, not_true_eq_false, not_false_eq_true, e_nb0, k12, g5, ei, ej, ei', ej', Bool.false_eq_true, Bool.true_eq_false, t_211 g1 g3, e1, n_bit, q', t_227 g2 g4, c, y_E_244_208, eor]
          rw [t236, e_bI, key _ _ wlt, Int.toNat_natCast]
          simp (disch := first | assumption | omega) only [n_lc_lt, if_neg, y_E_244_288, ej1]
      · have z : c_f2 L lw (r_hs S 0) (r_hs S fi) f (r_rest S been) (r_hs S idx) i (r_hs S j) = 0 := by
          unfold c_f2
          rw [if_neg fun e => c e.2]
        rw [z, if_neg (by omega), Int.sub_zero] at hp1 ⊢
        obtain ⟨p, l, x1, x2⟩ := ih (j + 1) left (by omega) (by omega) h0 hl hp1
        refine ⟨p, l, x1, ?_⟩
        rw [← x2]
        simp (disch := omega) only [z_w_id, if_pos, if_neg, e_g, e_bI, e_bV, e_bL, e_II, e_II', e_IJ, e_JI, e_JJ, e_JJ', reduceIte, not_true_eq_false, not_false_eq_true, true_or, or_true, true_and, and_true, e_nb0, e_gT, g5, ei, ej, ei', ej', Bool.false_eq_true, Bool.true_eq_false, t_211 g1 g3, e1, n_bit, q', t_227 g2 g4, e_nb0, c, y_E_244_288, ej1]
end Finds
