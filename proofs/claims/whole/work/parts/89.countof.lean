def r_P (a k : Nat) : Prop := (a = 49 ∧ k = 33) ∨ a = 94 ∨ a = 95
section Ways
variable {sp : Nat → Nat} {ph : Bool} {d : Nat} {m : y_m} {L R t lw s S fi been idx : Nat} {i f : Bool}
theorem l_242 : ∀ (n j : Nat) (acc : Int) (m : y_m), j + n = n_pop S → 1 ≤ j → r_Cx m L lw S → ∃ m', y_R sp ph (d + 6) 242 10 [some (y_bo 11 0 49), none, some (y_bl acc), none, some (y_bi (j : Int))] [] m = y_rL (acc + q_S (fun j => c_f1 L lw (r_hs S 0) (r_rest S 0) (r_hs S j)) j n) m' ∧ q_F (fun a _ => a = 95) m m' ∧ r_Cx m' L lw S := by
  intro n
  induction n with
  | zero =>
    intro j acc m hj h1 hc
    have hp := n_pop_le hc.2.2.2.2.2.1
    have g5 := hc.2.2.2.2.1.1
    refine ⟨m, ?_, q_F_refl, hc⟩
    rw [y_E_242_10]
    simp (disch := omega) only [z_w_id, if_pos, if_neg, e_g, e_bI, e_bV, e_bL, e_II, e_II', e_IJ, e_JI, e_JJ, e_JJ', reduceIte, not_true_eq_false, not_false_eq_true, true_or, or_true, true_and, and_true, e_nb0, e_gT, g5, y_E_242_40, q_S, Int.add_zero]
  | succ n ih =>
    intro j acc m hj h1 hc
    have hp := n_pop_le hc.2.2.2.2.2.1
    have g5 := hc.2.2.2.2.1.1
    obtain ⟨m1, a1, a2, a3, a4⟩ := t_238 (sp := sp) (ph := ph) (d := d) (fi := j) (by omega) hc
    have t240 := t_240 (sp := sp) (ph := ph) (d := d + 3) a3 h1 (show j < n_pop S by omega) a4
    obtain ⟨m2, b1, b2, b3⟩ := ih (j + 1) (acc + c_f1 L lw (r_hs S 0) (r_rest S 0) (r_hs S j)) m1 (by omega) (by omega) a3
    refine ⟨m2, ?_, q_F_trans a2 b2, b3⟩
    rw [y_E_242_10, q_S, ← Int.add_assoc, ← b1]
    simp (disch := omega) only [z_w_id, if_pos, if_neg, e_g, e_bI, e_bV, e_bL, e_II, e_II', e_IJ, e_JI, e_JJ, e_JJ', reduceIte, not_true_eq_false, not_false_eq_true, true_or, or_true, true_and, and_true, e_nb0, e_gT, g5, a1, t240]
    rfl
theorem c_cnt_ix (hS : S < 4096) (hk : 0 < n_pop S) : c_cnt L lw S = q_S (fun j => c_f1 L lw (r_hs S 0) (r_rest S 0) (r_hs S j)) 1 (n_pop S - 1) := by
  unfold c_cnt
  rw [← r_rest_0 hS hk, ← r_hs_0]
  exact r_sum (been := 0) hS hk c_f1_0 12 (Nat.le_refl _) hk
theorem r_Cx_of (hS : S < 4096) (h2 : 2 ≤ n_pop S) (g1 : y_mI m 52 0 = (L : Int)) (g2 : y_mI m 52 4 = (lw : Int)) (g3 : L ≤ 6) (g4 : lw ≤ 2) (hH : r_H m S) : r_Cx m L lw S := ⟨g1, g2, g3, g4, hH, hS, h2⟩
theorem t_235c (hS : S < 4096) (h2 : 2 ≤ n_pop S) (g1 : y_mI m 52 0 = (L : Int)) (g2 : y_mI m 52 4 = (lw : Int)) (g3 : L ≤ 6) (g4 : lw ≤ 2) : ∃ m', y_V sp ph (d + 1) 235 [y_bo 11 0 49, y_bi (S : Int)] m = y_rV m' ∧ q_F r_P m m' ∧ r_Cx m' L lw S := by
  obtain ⟨m1, a1, a2, a3⟩ := t_235 (sp := sp) (ph := ph) (d := d) (m := m) hS
  refine ⟨m1, a1, q_F_mono a2 (fun a k h => by unfold r_P; omega), ?_, ?_, g3, g4, a3, hS, h2⟩
  · rw [q_F_I a2 52 0 (by omega)]; exact g1
  · rw [q_F_I a2 52 4 (by omega)]; exact g2
theorem t_242 (hS : S < 4096) (h2 : 2 ≤ n_pop S) (g1 : y_mI m 52 0 = (L : Int)) (g2 : y_mI m 52 4 = (lw : Int)) (g3 : L ≤ 6) (g4 : lw ≤ 2) : ∃ m', y_V sp ph (d + 7) 242 [y_bo 11 0 49, y_bi (S : Int)] m = y_rL (c_cnt L lw S) m' ∧ q_F r_P m m' := by
  obtain ⟨m1, a1, a2, a3⟩ := t_235c (sp := sp) (ph := ph) (d := d + 5) hS h2 g1 g2 g3 g4
  obtain ⟨m2, b1, b2, b3⟩ := l_242 (sp := sp) (ph := ph) (d := d) (n_pop S - 1) 1 0 m1 (by omega) (by omega) a3
  refine ⟨m2, ?_, q_F_trans a2 (q_F_mono b2 (fun a k h => by unfold r_P; omega))⟩
  rw [Int.zero_add, ← c_cnt_ix hS (by omega)] at b1
  simp (disch := omega) only [y_C_242, y_E_242_0, z_w_id, if_pos, if_neg, e_g, e_bI, e_bV, e_bL, e_II, e_II', e_IJ, e_JI, e_JJ, e_JJ', reduceIte, not_true_eq_false, not_false_eq_true, true_or, or_true, true_and, and_true, e_nb0, e_gT, a1]
  exact b1
/-- a number tells the holes of rounds, to the reference -/
theorem t_241 {x : Int} (hL : y_mI m 52 0 = (L : Int)) (hR : y_mI m 52 1 = (R : Int)) (ht : y_mI m 52 6 = (t : Int)) (h1 : L ≤ 6) (h2 : R ≤ 6) (h : t < 4096) (hx : -2147483648 ≤ x) (hx' : x < 2147483648) : (c_rd L R t x → y_V sp ph (d + 2) 241 [y_bo 11 0 49, y_bi x] m = y_rI 1 m) ∧ (¬ c_rd L R t x → y_V sp ph (d + 2) 241 [y_bo 11 0 49, y_bi x] m = y_rI 0 m) := by
  have hp : 2 ^ (L + R) ≤ 2 ^ 12 := Nat.pow_le_pow_right (by decide) (by omega)
  have hq : 0 < 2 ^ (L + R) := Nat.pow_pos (by decide)
  have e1 : z_ishl 1 ((L : Int) + (R : Int)) - 1 = ((2 ^ (L + R) - 1 : Nat) : Int) := by
    rw [show (L : Int) + (R : Int) = ((L + R : Nat) : Int) by omega, n_one (by omega)]; omega
  have t180 := t_180 (sp := sp) (ph := ph) (d := d) (m := m) (v := x) (lo := 0) (hi := ((2 ^ (L + R) - 1 : Nat) : Int)) hx hx' (by omega) (by omega) (by omega) (by omega)
  by_cases hr : 0 ≤ x ∧ x ≤ ((2 ^ (L + R) - 1 : Nat) : Int)
  · obtain ⟨n, hn⟩ : ∃ n : Nat, x = n := ⟨x.toNat, by omega⟩
    subst hn
    rw [decide_eq_true hr] at t180
    have t180' : y_V sp ph (d + 1) 180 [y_bi (n : Int), y_bi 0, y_bi ((2 ^ (L + R) - 1 : Nat) : Int)] m = y_rI 1 m := t180
    have hn4 : n < 4096 := by omega
    have hpn := n_pop_le hn4
    have ea : z_iand (n : Int) (t : Int) = ((n &&& t : Nat) : Int) := n_iand (by omega) (by omega)
    have hle : n &&& t ≤ n := Nat.and_le_left
    have key : n &&& t = 0 ↔ n_bd n (c_wh L R t) = 0 := by
      rw [n_bd_0]
      constructor
      · intro e j hj
        have := congrArg (fun z => Nat.testBit z j) e
        rw [Nat.testBit_and, Nat.zero_testBit, hj] at this
        rw [c_wh_bit]
        have hjl : j < L + R := by
          rcases Nat.lt_or_ge j (L + R) with q | q
          · exact q
          · rw [Nat.testBit_lt_two_pow (Nat.lt_of_lt_of_le (show n < 2 ^ (L + R) by omega) (Nat.pow_le_pow_right (by decide) q))] at hj; cases hj
        rw [decide_eq_true hjl]
        cases q : t.testBit j
        · rfl
        · rw [q] at this; cases this
      · intro e
        refine Nat.eq_of_testBit_eq fun j => ?_
        rw [Nat.testBit_and, Nat.zero_testBit]
        cases q : n.testBit j
        · rfl
        · have := e j q
          rw [c_wh_bit, Bool.and_eq_true, Bool.not_eq_true'] at this
          rw [this.2]; rfl
    unfold c_rd
    rw [Int.toNat_natCast]
    generalize 2 ^ (L + R) - 1 = top at *
    by_cases ha : n &&& t = 0
    · rw [ha] at ea
      by_cases hb : n_pop n ≤ 2
      · constructor
        · intro q; omega
        · intro _
          simp (disch := omega) only [y_C_241, y_E_241_0, y_E_241_40, y_E_241_41, z_w_id, if_pos, if_neg, e_g, e_bI, e_bV, e_bL, e_II, e_II', e_IJ, e_JI, e_JJ, e_JJ', reduceIte, not_true_eq_false, not_false_eq_true, true_or, or_true, true_and, and_true, e_nb0, e_gT, t_199, hL, hR, ht, e1, t180', ea, t_201]
      · constructor
        · intro _
          simp (disch := omega) only [y_C_241, y_E_241_0, y_E_241_40, y_E_241_41, z_w_id, if_pos, if_neg, e_g, e_bI, e_bV, e_bL, e_II, e_II', e_IJ, e_JI, e_JJ, e_JJ', reduceIte, not_true_eq_false, not_false_eq_true, true_or, or_true, true_and, and_true, e_nb0, e_gT, t_199, hL, hR, ht, e1, t180', ea, t_201]
        · intro q; exact absurd ⟨hr.1, key.mp ha, by omega⟩ q
    · constructor
      · intro q; exact absurd (key.mpr q.2.1) ha
      · intro _
        simp (disch := omega) only [y_C_241, y_E_241_0, y_E_241_40, y_E_241_41, z_w_id, if_pos, if_neg, e_g, e_bI, e_bV, e_bL, e_II, e_II', e_IJ, e_JI, e_JJ, e_JJ', reduceIte, not_true_eq_false, not_false_eq_true, true_or, or_true, true_and, and_true, e_nb0, e_gT, t_199, hL, hR, ht, e1, t180', ea]
  · rw [decide_eq_false hr] at t180
    have t180' : y_V sp ph (d + 1) 180 [y_bi x, y_bi 0, y_bi ((2 ^ (L + R) - 1 : Nat) : Int)] m = y_rI 0 m := t180
    constructor
    · intro q
      refine absurd ⟨q.1, ?_⟩ hr
      have hle := Nat.le_of_testBit (n_bd_0.mp q.2.1)
      have := n_bd_le (2 ^ (L + R) - 1) t
      have := q.1
      unfold c_wh at hle
      omega
    · intro _
      generalize 2 ^ (L + R) - 1 = top at *
      simp (disch := omega) only [y_C_241, y_E_241_0, y_E_241_40, y_E_241_41, z_w_id, if_pos, if_neg, e_g, e_bI, e_bV, e_bL, e_II, e_II', e_IJ, e_JI, e_JJ, e_JJ', reduceIte, not_true_eq_false, not_false_eq_true, true_or, or_true, true_and, and_true, e_nb0, e_gT, t_199, hL, hR, ht, e1, t180']
end Ways
