section Num
variable {sp : Nat → Nat} {ph : Bool} {d : Nat} {m : y_m} {L R lw s S fi been idx : Nat} {i f : Bool} {w : List Nat}
theorem l_249b {own : List Nat} (hc : r_Cx m L lw S) (hw : r_ways m L lw S fi 1) (ho : own.length = n_pop S) (hO : ∀ i, i < own.length → y_mI m 98 i = ((own.getD i 0 : Nat) : Int)) : ∀ (t : List Nat) (x8 been now : Nat) (i : Bool) (acc : Int), x8 ≤ 12 → own.drop x8 = t → (∀ h ∈ t, S.testBit h = true ∧ h ≠ r_hs S 0) → been < 2 ^ (n_pop S - 1) → now < n_pop S → y_R sp ph (d + 3) 249 130 [some (y_bo 11 0 49), none, some (y_bi (been : Int)), some (y_bi (now : Int)), some (y_bl acc), none, some (y_bi (n_b i)), some (y_bi (n_b f)), some (y_bi (x8 : Int)), none, none, none] [] m = y_rL (acc + c_rk2 L lw (r_hs S 0) (r_hs S fi) f t (r_hs S now) i (r_rest S been)) m := by
  have hc' := hc
  obtain ⟨g1, g2, g3, g4, ⟨g5, g6⟩, g7, g8⟩ := hc'
  have hp := n_pop_le g7
  have hpw := r_pw g7
  intro t
  induction t with
  | nil =>
    intro x8 been now i acc h8 e ht hb hn
    have : own.length ≤ x8 := by
      have := congrArg List.length e
      rw [List.length_drop] at this
      simp at this
      omega
    rw [y_E_249_130]
    simp (disch := omega) only [z_w_id, if_pos, if_neg, e_g, e_bI, e_bV, e_bL, e_II, e_II', e_IJ, e_JI, e_JJ, e_JJ', reduceIte, not_true_eq_false, not_false_eq_true, true_or, or_true, true_and, and_true, e_nb0, e_gT, g5, y_E_249_274, c_rk2, Int.add_zero]
  | cons h t ih =>
    intro x8 been now i acc h8 e ht hb hn
    obtain ⟨q1, q2, q3⟩ := q_at_drop e
    have hh := ht h (List.mem_cons_self ..)
    have h12 := n_tb_lt g7 hh.1
    have hix := r_ix_lt hh.1 h12
    rw [r_ix_12] at hix
    have hix1 : 1 ≤ r_ix S h := by
      rcases Nat.eq_zero_or_pos (r_ix S h) with z | z
      · have := r_hs_ix hh.1 h12
        rw [z] at this
        exact absurd this.symm hh.2
      · exact z
    have hhs := r_hs_ix hh.1 h12
    have e98 : y_mI m 98 x8 = (h : Int) := by rw [hO x8 q1, ← q_at_nat q1, q2]
    have t248 := t_248 (sp := sp) (ph := ph) (d := d + 2) ⟨g5, g6⟩ g7 hh.1
    have l := l_249c (sp := sp) (ph := ph) (d := d) (x8 := x8) (i := i) (f := f) hc hb hn hix hw (r_ix S h - 1) 1 acc (by omega) (by omega)
    rw [← r_sum (been := been) g7 (by omega) c_f2_0 h (by omega) hix1] at l
    have l' : y_R sp ph (d + 3) 249 155 [some (y_bo 11 0 49), none, some (y_bi (been : Int)), some (y_bi (now : Int)), some (y_bl acc), none, some (y_bi (n_b i)), some (y_bi (n_b f)), some (y_bi (x8 : Int)), some (y_bi (r_ix S h : Int)), some (y_bi 1), none] [] m = _ := l
    have eo := r_rest_or (been := been) g7 hix1 hix
    rw [hhs] at eo
    have hpp : 1 <<< (r_ix S h - 1) < 2 ^ (n_pop S - 1) := by rw [Nat.one_shiftLeft]; exact Nat.pow_lt_pow_right (by decide) (by omega)
    have olt : been ||| 1 <<< (r_ix S h - 1) < 2 ^ (n_pop S - 1) := Nat.or_lt_two_pow hb hpp
    have nx := ih (x8 + 1) (been ||| 1 <<< (r_ix S h - 1)) (r_ix S h) (r_x L (r_hs S now) h) (acc + q_S (c_f2 L lw (r_hs S 0) (r_hs S fi) f (r_rest S been) (r_hs S now) i) 0 h) (by omega) q3 (fun h' hm => ht h' (List.mem_cons_of_mem _ hm)) olt hix
    rw [eo, hhs] at nx
    have eor : z_ior (been : Int) (z_ishl 1 ((r_ix S h - 1 : Nat) : Int)) = ((been ||| 1 <<< (r_ix S h - 1) : Nat) : Int) := by
      rw [show (1 : Int) = ((1 : Nat) : Int) from rfl, n_ishl (by omega) (by omega), n_ior (by omega) (by omega)]
    have hn12 := (r_hs_B hn).1
    have en := g6 now hn
    have ex : y_mI m 94 (r_ix S h) = (h : Int) := by rw [g6 _ hix, hhs]
    have e1 : (r_ix S h : Int) - 1 = ((r_ix S h - 1 : Nat) : Int) := by omega
    rw [y_E_249_130]
    simp (disch := omega) only [z_w_id, if_pos, if_neg, e_g, e_bI, e_bV, e_bL, e_II, e_II', e_IJ, e_JI, e_JJ, e_JJ', reduceIte, not_true_eq_false, not_false_eq_true, true_or, or_true, true_and, and_true, e_nb0, e_gT, g5, Int.toNat_natCast, e98, t248, l']
    rw [y_E_249_237]
    simp (disch := omega) only [z_w_id, if_pos, if_neg, e_g, e_bI, e_bV, e_bL, e_II, e_II', e_IJ, e_JI, e_JJ, e_JJ', reduceIte, not_true_eq_false, not_false_eq_true, true_or, or_true, true_and, and_true, e_nb0, e_gT, Int.toNat_natCast, en, ex, t_211 g1 g3, e1, eor]
    rw [c_rk2, ← Int.add_assoc]
    exact nx
end Num
