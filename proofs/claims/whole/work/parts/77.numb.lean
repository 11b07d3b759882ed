/-! ===== number, count, take and draw of the class ===== -/
theorem n_neg {x : Int} {b : Nat} (h0 : -2147483648 ≤ x) (h1 : x < 0) (hb : b < 2147483648) : z_iand x (z_ixor b (-1)) < 0 := by
  have e1 : Int32.ofInt (z_ixor b (-1)) = Int32.ofInt b ^^^ Int32.ofInt (-1) := z_ot _
  show (Int32.ofInt x &&& Int32.ofInt (z_ixor b (-1))).toBitVec.toInt < 0
  rw [e1, Int32.toBitVec_and, Int32.toBitVec_xor, n_bv]
  have hx : (Int32.ofInt x).toBitVec.msb = true := by
    have e : (Int32.ofInt x).toBitVec.toInt = x := n_oi h0 (by omega)
    rw [BitVec.toInt_eq_msb_cond] at e
    cases q : (Int32.ofInt x).toBitVec.msb
    · rw [q] at e
      rw [if_neg (by decide)] at e
      omega
    · rfl
  have hbm : (BitVec.ofNat 32 b).msb = false := by
    rw [BitVec.msb_eq_decide, BitVec.toNat_ofNat, Nat.mod_eq_of_lt (by omega)]
    exact decide_eq_false (by omega)
  have hm : ((Int32.ofInt x).toBitVec &&& (BitVec.ofNat 32 b ^^^ (Int32.ofInt (-1)).toBitVec)).msb = true := by
    rw [BitVec.msb_and, BitVec.msb_xor, hx, hbm]; decide
  rw [BitVec.toInt_eq_msb_cond, if_pos hm]
  have := ((Int32.ofInt x).toBitVec &&& (BitVec.ofNat 32 b ^^^ (Int32.ofInt (-1)).toBitVec)).isLt
  omega
def c_wh (L R t : Nat) : Nat := n_bd (2 ^ (L + R) - 1) t
theorem c_wh_bit {L R t j : Nat} : (c_wh L R t).testBit j = (decide (j < L + R) && !t.testBit j) := by
  unfold c_wh; rw [n_bd_bit, Nat.testBit_two_pow_sub_one]
theorem c_wh_lt {L R t : Nat} (h1 : L ≤ 6) (h2 : R ≤ 6) : c_wh L R t < 4096 := by
  have := n_bd_le (2 ^ (L + R) - 1) t
  have : 2 ^ (L + R) ≤ 2 ^ 12 := Nat.pow_le_pow_right (by decide) (by omega)
  unfold c_wh; omega
theorem n_bd_0 {a b : Nat} : n_bd a b = 0 ↔ ∀ j, a.testBit j = true → b.testBit j = true := by
  constructor
  · intro h j hj
    have e := n_bd_bit a b j
    rw [h, hj, Nat.zero_testBit] at e
    cases q : b.testBit j
    · rw [q] at e; cases e
    · rfl
  · intro h
    refine Nat.eq_of_testBit_eq fun j => ?_
    rw [n_bd_bit, Nat.zero_testBit]
    cases q : a.testBit j
    · rfl
    · rw [h j q]; rfl
/-- a number tells the holes of rounds -/
def c_rd (L R t : Nat) (x : Int) : Prop := 0 ≤ x ∧ n_bd x.toNat (c_wh L R t) = 0 ∧ 3 ≤ n_pop x.toNat
theorem c_rd_lt {L R t : Nat} {x : Int} (h1 : L ≤ 6) (h2 : R ≤ 6) (h : n_bd x.toNat (c_wh L R t) = 0) : x.toNat < 4096 := by
  have a := Nat.le_of_testBit (n_bd_0.mp h)
  have b := c_wh_lt (t := t) h1 h2
  omega
section Numb
variable {sp : Nat → Nat} {ph : Bool} {d : Nat} {m : y_m} {a b c L R t lw s sec : Nat} {first : Bool} {w : List Nat}
theorem s_171y (hW : q_W m 23 w) (hn : w ≠ []) : y_V sp ph (d + 1) 171 [y_bo 10 0 0] m = y_rV m := by
  have := List.length_pos_iff.mpr hn
  have := hW.2.1
  simp (disch := omega) only [y_C_171, y_E_171_0, y_E_171_24, z_w_id, if_pos, if_neg, e_g, e_bI, e_bV, e_bL, e_II, e_II', e_IJ, e_JI, e_JJ, e_JJ', reduceIte, not_true_eq_false, not_false_eq_true, true_or, or_true, true_and, and_true, e_nb0, e_gT, hW.1]
theorem s_171n (hW : q_W m 23 []) : y_V sp true (d + 1) 171 [y_bo 10 0 0] m = some (.inr 2, y_tm m) := by
  have h := hW.1
  have h : y_mI m 23 1 = 0 := h
  simp (disch := omega) only [y_C_171, y_E_171_0, y_E_171_24, z_w_id, if_pos, if_neg, e_g, e_bI, e_bV, e_bL, e_II, e_II', e_IJ, e_JI, e_JJ, e_JJ', reduceIte, not_true_eq_false, not_false_eq_true, true_or, or_true, true_and, and_true, e_nb0, e_gT, h]
  rfl
theorem s_172 {x : Int} (hL : y_mI m (y_mc m) 0 = (L : Int)) (hR : y_mI m (y_mc m) 1 = (R : Int)) (ht : y_mI m (y_mc m) 4 = (t : Int)) (h1 : L ≤ 6) (h2 : R ≤ 6) (h : t < 4096) (hx : -2147483648 ≤ x) (hx' : x < 2147483648) : (c_rd L R t x → y_V sp ph (d + 3) 172 [y_bo 10 0 0, y_bi x] m = y_rV m) ∧ (¬ c_rd L R t x → y_V sp true (d + 3) 172 [y_bo 10 0 0, y_bi x] m = some (.inr 0, y_tm m)) := by
  have hw := c_wh_lt (t := t) h1 h2
  have hw' := hw
  unfold c_wh at hw'
  have s41 : ∀ ph, y_V sp ph (d + 2) 41 [y_bo 0 0 (y_mc m)] m = y_rI (c_wh L R t : Int) m := fun ph => s_41 hL hR ht h1 h2 h
  by_cases h0 : 0 ≤ x
  · obtain ⟨n, hn⟩ : ∃ n : Nat, x = n := ⟨x.toNat, by omega⟩
    subst hn
    have e1 : z_iand (n : Int) (z_ixor (c_wh L R t : Int) (-1)) = ((n_bd n (c_wh L R t) : Nat) : Int) := n_not (by omega) (by omega)
    have hle := n_bd_le n (c_wh L R t)
    unfold c_rd
    rw [Int.toNat_natCast]
    by_cases hz : n_bd n (c_wh L R t) = 0
    · have hn4 : n < 4096 := c_rd_lt (x := (n : Int)) h1 h2 (by rw [Int.toNat_natCast]; exact hz)
      have hp := n_pop_le hn4
      constructor
      · intro hq
        have := hq.2.2
        simp (disch := omega) only [y_C_172, y_E_172_0, y_E_172_22, y_E_172_33, z_w_id, if_pos, if_neg, e_g, e_bI, e_bV, e_bL, e_II, e_II', e_IJ, e_JI, e_JJ, e_JJ', reduceIte, not_true_eq_false, not_false_eq_true, true_or, or_true, true_and, and_true, e_nb0, e_gT, s41, e1, s_1]
      · intro hq
        have : ¬ 3 ≤ n_pop n := fun q => hq ⟨h0, hz, q⟩
        simp (disch := omega) only [y_C_172, y_E_172_0, y_E_172_22, y_E_172_33, z_w_id, if_pos, if_neg, e_g, e_bI, e_bV, e_bL, e_II, e_II', e_IJ, e_JI, e_JJ, e_JJ', reduceIte, not_true_eq_false, not_false_eq_true, true_or, or_true, true_and, and_true, e_nb0, e_gT, s41, e1, s_1]
        rfl
    · constructor
      · intro hq; exact absurd hq.2.1 hz
      · intro hq
        simp (disch := omega) only [y_C_172, y_E_172_0, y_E_172_22, y_E_172_33, z_w_id, if_pos, if_neg, e_g, e_bI, e_bV, e_bL, e_II, e_II', e_IJ, e_JI, e_JJ, e_JJ', reduceIte, not_true_eq_false, not_false_eq_true, true_or, or_true, true_and, and_true, e_nb0, e_gT, s41, e1]
        rfl
  · have ng := n_neg (b := c_wh L R t) hx (by omega) (by omega)
    have nr : -2147483648 ≤ z_iand x (z_ixor (c_wh L R t : Int) (-1)) := (n_t32 _).1
    constructor
    · intro hq; exact absurd hq.1 h0
    · intro hq
      simp (disch := omega) only [y_C_172, y_E_172_0, y_E_172_22, y_E_172_33, z_w_id, if_pos, if_neg, e_g, e_bI, e_bV, e_bL, e_II, e_II', e_IJ, e_JI, e_JJ, e_JJ', reduceIte, not_true_eq_false, not_false_eq_true, true_or, or_true, true_and, and_true, e_nb0, e_gT, s41]
      rfl
end Numb
