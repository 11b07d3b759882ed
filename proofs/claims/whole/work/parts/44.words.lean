/-! ===== words and bits: what the machine's operations are over small numbers ===== -/
theorem n_bv (a : Nat) : (Int32.ofInt (a : Int)).toBitVec = BitVec.ofNat 32 a := by
  rw [Int32.toBitVec_ofInt, BitVec.ofInt_natCast]
theorem n_bvl (a : Nat) : (Int64.ofInt (a : Int)).toBitVec = BitVec.ofNat 64 a := by
  rw [Int64.toBitVec_ofInt, BitVec.ofInt_natCast]
theorem n_ti {v : BitVec 32} (h : v.toNat < 2147483648) : v.toInt = (v.toNat : Int) := BitVec.toInt_eq_toNat_of_lt (by omega)
theorem n_til {v : BitVec 64} (h : v.toNat < 9223372036854775808) : v.toInt = (v.toNat : Int) := BitVec.toInt_eq_toNat_of_lt (by omega)
theorem n_sh : ∀ y, y < 32 → ((Int32.ofInt ((y : Nat) : Int) &&& 31).toBitVec.smod 32).toNat = y := by decide
theorem n_shl : ∀ y, y < 64 → (((Int32.ofInt ((y : Nat) : Int)).toInt64 &&& 63).toBitVec.smod 64).toNat = y := by decide
theorem n_iand {a b : Nat} (ha : a < 2147483648) (hb : b < 2147483648) : z_iand a b = ((a &&& b : Nat) : Int) := by
  have h : a &&& b ≤ a := Nat.and_le_left
  have e : (BitVec.ofNat 32 a &&& BitVec.ofNat 32 b).toNat = a &&& b := by
    rw [BitVec.toNat_and, BitVec.toNat_ofNat, BitVec.toNat_ofNat, Nat.mod_eq_of_lt (by omega), Nat.mod_eq_of_lt (by omega)]
  show (Int32.ofInt a &&& Int32.ofInt b).toBitVec.toInt = _
  rw [Int32.toBitVec_and, n_bv, n_bv, n_ti (by rw [e]; omega), e]
theorem n_ior {a b : Nat} (ha : a < 2147483648) (hb : b < 2147483648) : z_ior a b = ((a ||| b : Nat) : Int) := by
  have h : a ||| b < 2 ^ 31 := Nat.or_lt_two_pow (by omega) (by omega)
  have e : (BitVec.ofNat 32 a ||| BitVec.ofNat 32 b).toNat = a ||| b := by
    rw [BitVec.toNat_or, BitVec.toNat_ofNat, BitVec.toNat_ofNat, Nat.mod_eq_of_lt (by omega), Nat.mod_eq_of_lt (by omega)]
  show (Int32.ofInt a ||| Int32.ofInt b).toBitVec.toInt = _
  rw [Int32.toBitVec_or, n_bv, n_bv, n_ti (by rw [e]; omega), e]
theorem n_ixor {a b : Nat} (ha : a < 2147483648) (hb : b < 2147483648) : z_ixor a b = ((a ^^^ b : Nat) : Int) := by
  have h : a ^^^ b < 2 ^ 31 := Nat.xor_lt_two_pow (by omega) (by omega)
  have e : (BitVec.ofNat 32 a ^^^ BitVec.ofNat 32 b).toNat = a ^^^ b := by
    rw [BitVec.toNat_xor, BitVec.toNat_ofNat, BitVec.toNat_ofNat, Nat.mod_eq_of_lt (by omega), Nat.mod_eq_of_lt (by omega)]
  show (Int32.ofInt a ^^^ Int32.ofInt b).toBitVec.toInt = _
  rw [Int32.toBitVec_xor, n_bv, n_bv, n_ti (by rw [e]; omega), e]
theorem n_ishl {a y : Nat} (hy : y < 32) (ha : a <<< y < 2147483648) : z_ishl a y = ((a <<< y : Nat) : Int) := by
  have e : (BitVec.ofNat 32 a <<< ((Int32.ofInt (y : Int) &&& 31).toBitVec.smod 32)).toNat = a <<< y := by
    rw [BitVec.shiftLeft_eq', BitVec.toNat_shiftLeft, n_sh y hy, BitVec.toNat_ofNat, Nat.shiftLeft_eq, Nat.shiftLeft_eq, Nat.mod_mul_mod, Nat.mod_eq_of_lt]
    rw [Nat.shiftLeft_eq] at ha; omega
  show (Int32.ofInt a <<< (Int32.ofInt y &&& 31)).toBitVec.toInt = _
  rw [Int32.toBitVec_shiftLeft, n_bv, n_ti (by rw [e]; omega), e]
theorem n_ishr {a y : Nat} (hy : y < 32) (ha : a < 2147483648) : z_ishr a y = ((a >>> y : Nat) : Int) := by
  have hm : (BitVec.ofNat 32 a).msb = false := by
    rw [BitVec.msb_eq_decide, BitVec.toNat_ofNat, Nat.mod_eq_of_lt (by omega)]
    exact decide_eq_false (by omega)
  have hl : a >>> y ≤ a := Nat.shiftRight_le a y
  have e : ((BitVec.ofNat 32 a).sshiftRight' ((Int32.ofInt (y : Int) &&& 31).toBitVec.smod 32)).toNat = a >>> y := by
    show ((BitVec.ofNat 32 a).sshiftRight _).toNat = _
    rw [n_sh y hy, BitVec.sshiftRight_eq_of_msb_false hm, BitVec.toNat_ushiftRight, BitVec.toNat_ofNat, Nat.mod_eq_of_lt (by omega)]
  show (Int32.ofInt a >>> (Int32.ofInt y &&& 31)).toBitVec.toInt = _
  rw [Int32.toBitVec_shiftRight, n_bv, n_ti (by rw [e]; omega), e]
theorem n_land {a b : Nat} (ha : a < 9223372036854775808) (hb : b < 9223372036854775808) : z_land a b = ((a &&& b : Nat) : Int) := by
  have h : a &&& b ≤ a := Nat.and_le_left
  have e : (BitVec.ofNat 64 a &&& BitVec.ofNat 64 b).toNat = a &&& b := by
    rw [BitVec.toNat_and, BitVec.toNat_ofNat, BitVec.toNat_ofNat, Nat.mod_eq_of_lt (by omega), Nat.mod_eq_of_lt (by omega)]
  show (Int64.ofInt a &&& Int64.ofInt b).toBitVec.toInt = _
  rw [Int64.toBitVec_and, n_bvl, n_bvl, n_til (by rw [e]; omega), e]
theorem n_lor {a b : Nat} (ha : a < 9223372036854775808) (hb : b < 9223372036854775808) : z_lor a b = ((a ||| b : Nat) : Int) := by
  have h : a ||| b < 2 ^ 63 := Nat.or_lt_two_pow (by omega) (by omega)
  have e : (BitVec.ofNat 64 a ||| BitVec.ofNat 64 b).toNat = a ||| b := by
    rw [BitVec.toNat_or, BitVec.toNat_ofNat, BitVec.toNat_ofNat, Nat.mod_eq_of_lt (by omega), Nat.mod_eq_of_lt (by omega)]
  show (Int64.ofInt a ||| Int64.ofInt b).toBitVec.toInt = _
  rw [Int64.toBitVec_or, n_bvl, n_bvl, n_til (by rw [e]; omega), e]
theorem n_lshl {a y : Nat} (hy : y < 64) (ha : a <<< y < 9223372036854775808) : z_lshl a y = ((a <<< y : Nat) : Int) := by
  have e : (BitVec.ofNat 64 a <<< (((Int32.ofInt (y : Int)).toInt64 &&& 63).toBitVec.smod 64)).toNat = a <<< y := by
    rw [BitVec.shiftLeft_eq', BitVec.toNat_shiftLeft, n_shl y hy, BitVec.toNat_ofNat, Nat.shiftLeft_eq, Nat.shiftLeft_eq, Nat.mod_mul_mod, Nat.mod_eq_of_lt]
    rw [Nat.shiftLeft_eq] at ha; omega
  show (Int64.ofInt a <<< ((Int32.ofInt y).toInt64 &&& 63)).toBitVec.toInt = _
  rw [Int64.toBitVec_shiftLeft, n_bvl, n_til (by rw [e]; omega), e]
theorem n_lshr {a y : Nat} (hy : y < 64) (ha : a < 9223372036854775808) : z_lshr a y = ((a >>> y : Nat) : Int) := by
  have hm : (BitVec.ofNat 64 a).msb = false := by
    rw [BitVec.msb_eq_decide, BitVec.toNat_ofNat, Nat.mod_eq_of_lt (by omega)]
    exact decide_eq_false (by omega)
  have hl : a >>> y ≤ a := Nat.shiftRight_le a y
  have e : ((BitVec.ofNat 64 a).sshiftRight' (((Int32.ofInt (y : Int)).toInt64 &&& 63).toBitVec.smod 64)).toNat = a >>> y := by
    show ((BitVec.ofNat 64 a).sshiftRight _).toNat = _
    rw [n_shl y hy, BitVec.sshiftRight_eq_of_msb_false hm, BitVec.toNat_ushiftRight, BitVec.toNat_ofNat, Nat.mod_eq_of_lt (by omega)]
  show (Int64.ofInt a >>> ((Int32.ofInt y).toInt64 &&& 63)).toBitVec.toInt = _
  rw [Int64.toBitVec_shiftRight, n_bvl, n_til (by rw [e]; omega), e]
/-- the same over whole numbers that aren't negative -/
theorem n_pos {x : Int} (h : 0 ≤ x) : x = ((x.toNat : Nat) : Int) := (Int.toNat_of_nonneg h).symm
theorem n_iand' {x y : Int} (h0 : 0 ≤ x) (h1 : x < 2147483648) (h2 : 0 ≤ y) (h3 : y < 2147483648) : z_iand x y = ((x.toNat &&& y.toNat : Nat) : Int) := by
  rw [n_pos h0, n_pos h2, n_iand (by omega) (by omega), Int.toNat_natCast, Int.toNat_natCast]
theorem n_ishr' {x y : Int} (h0 : 0 ≤ x) (h1 : x < 2147483648) (h2 : 0 ≤ y) (h3 : y < 32) : z_ishr x y = x / 2 ^ y.toNat := by
  rw [n_pos h0, n_pos h2, n_ishr (by omega) (by omega), Int.toNat_natCast, Nat.shiftRight_eq_div_pow]
  simp
theorem n_lshr' {x y : Int} (h0 : 0 ≤ x) (h1 : x < 9223372036854775808) (h2 : 0 ≤ y) (h3 : y < 64) : z_lshr x y = x / 2 ^ y.toNat := by
  rw [n_pos h0, n_pos h2, n_lshr (by omega) (by omega), Int.toNat_natCast, Nat.shiftRight_eq_div_pow]
  simp
theorem n_lshl' {x y : Int} (h0 : 0 ≤ x) (h2 : 0 ≤ y) (h3 : y < 64) (h1 : x * 2 ^ y.toNat < 9223372036854775808) : z_lshl x y = x * 2 ^ y.toNat := by
  have h : x.toNat <<< y.toNat < 9223372036854775808 := by
    rw [Nat.shiftLeft_eq]
    have : ((x.toNat * 2 ^ y.toNat : Nat) : Int) < 9223372036854775808 := by rw [Int.natCast_mul, ← n_pos h0]; simpa using h1
    omega
  have h4 := n_lshl (a := x.toNat) (y := y.toNat) (by omega) h
  rw [← n_pos h0, ← n_pos h2] at h4
  rw [h4, Nat.shiftLeft_eq, Int.natCast_mul, ← n_pos h0]
  simp
theorem n_ishl' {x y : Int} (h0 : 0 ≤ x) (h2 : 0 ≤ y) (h3 : y < 32) (h1 : x * 2 ^ y.toNat < 2147483648) : z_ishl x y = x * 2 ^ y.toNat := by
  have h : x.toNat <<< y.toNat < 2147483648 := by
    rw [Nat.shiftLeft_eq]
    have : ((x.toNat * 2 ^ y.toNat : Nat) : Int) < 2147483648 := by rw [Int.natCast_mul, ← n_pos h0]; simpa using h1
    omega
  have h4 := n_ishl (a := x.toNat) (y := y.toNat) (by omega) h
  rw [← n_pos h0, ← n_pos h2] at h4
  rw [h4, Nat.shiftLeft_eq, Int.natCast_mul, ← n_pos h0]
  simp
theorem n_w (x : Int) : -2147483648 ≤ z_w x ∧ z_w x < 2147483648 := ⟨Int32.le_toInt _, Int32.toInt_lt _⟩
theorem n_ww (x : Int) : z_w (z_w x) = z_w x := z_w_id (n_w x).1 (n_w x).2
theorem n_wl (x : Int) : -9223372036854775808 ≤ z_wl x ∧ z_wl x < 9223372036854775808 := ⟨Int64.le_toInt _, Int64.toInt_lt _⟩
theorem n_t32 (v : Int32) : -2147483648 ≤ v.toInt ∧ v.toInt < 2147483648 := ⟨Int32.le_toInt _, Int32.toInt_lt _⟩
theorem n_t64 (v : Int64) : -9223372036854775808 ≤ v.toInt ∧ v.toInt < 9223372036854775808 := ⟨Int64.le_toInt _, Int64.toInt_lt _⟩
theorem n_oi {x : Int} (h1 : -2147483648 ≤ x) (h2 : x < 2147483648) : (Int32.ofInt x).toInt = x := z_w_id h1 h2
theorem n_oil {x : Int} (h1 : -9223372036854775808 ≤ x) (h2 : x < 9223372036854775808) : (Int64.ofInt x).toInt = x := z_wl_id h1 h2
theorem n_idiv {x y : Int} (h0 : 0 ≤ x) (h1 : x < 2147483648) (h2 : 0 < y) (h3 : y < 2147483648) : z_idiv x y = x / y := by
  have hd : 0 ≤ x / y := Int.ediv_nonneg h0 (by omega)
  have hl : x / y ≤ x := Int.ediv_le_self _ h0
  rw [z_idiv, Int32.toInt_div, n_oi (by omega) h1, n_oi (by omega) h3, Int.tdiv_eq_ediv_of_nonneg h0]
  have e : ((2 : Nat) ^ 32 : Nat) = 4294967296 := rfl
  rw [Int.bmod_eq_of_le] <;> omega
theorem n_irem {x y : Int} (h0 : 0 ≤ x) (h1 : x < 2147483648) (h2 : 0 < y) (h3 : y < 2147483648) : z_irem x y = x % y := by
  have hd : 0 ≤ x % y := Int.emod_nonneg _ (by omega)
  have hl : x % y < y := Int.emod_lt_of_pos _ h2
  have e : Int32.ofInt x / Int32.ofInt y = Int32.ofInt (x / y) := by
    apply Int32.toInt_inj.mp
    have hd : 0 ≤ x / y := Int.ediv_nonneg h0 (by omega)
    have hl : x / y ≤ x := Int.ediv_le_self _ h0
    rw [n_oi (by omega) (by omega)]
    exact n_idiv h0 h1 h2 h3
  rw [z_irem, e, z_om, z_os, n_oi] <;> rw [show x - x / y * y = x % y by rw [Int.emod_def, Int.mul_comm]] <;> omega
theorem n_ldiv {x y : Int} (h0 : 0 ≤ x) (h1 : x < 9223372036854775808) (h2 : 0 < y) (h3 : y < 9223372036854775808) : z_ldiv x y = x / y := by
  have hd : 0 ≤ x / y := Int.ediv_nonneg h0 (by omega)
  have hl : x / y ≤ x := Int.ediv_le_self _ h0
  rw [z_ldiv, Int64.toInt_div, n_oil (by omega) h1, n_oil (by omega) h3, Int.tdiv_eq_ediv_of_nonneg h0]
  have e : ((2 : Nat) ^ 64 : Nat) = 18446744073709551616 := rfl
  rw [Int.bmod_eq_of_le] <;> omega
theorem n_lrem {x y : Int} (h0 : 0 ≤ x) (h1 : x < 9223372036854775808) (h2 : 0 < y) (h3 : y < 9223372036854775808) : z_lrem x y = x % y := by
  have hd : 0 ≤ x % y := Int.emod_nonneg _ (by omega)
  have hl : x % y < y := Int.emod_lt_of_pos _ h2
  have e : Int64.ofInt x / Int64.ofInt y = Int64.ofInt (x / y) := by
    apply Int64.toInt_inj.mp
    have hd : 0 ≤ x / y := Int.ediv_nonneg h0 (by omega)
    have hl : x / y ≤ x := Int.ediv_le_self _ h0
    rw [n_oil (by omega) (by omega)]
    exact n_ldiv h0 h1 h2 h3
  rw [z_lrem, e, z_oml, z_osl, n_oil] <;> rw [show x - x / y * y = x % y by rw [Int.emod_def, Int.mul_comm]] <;> omega
/-- a number without the bits of another -/
def n_bd (a b : Nat) : Nat := a ^^^ (a &&& b)
theorem n_bd_bit (a b i : Nat) : (n_bd a b).testBit i = (a.testBit i && !b.testBit i) := by
  unfold n_bd
  rw [Nat.testBit_xor, Nat.testBit_and]
  cases a.testBit i <;> cases b.testBit i <;> rfl
theorem n_bd_le (a b : Nat) : n_bd a b ≤ a := by
  refine Nat.le_of_testBit ?_
  intro i h
  rw [n_bd_bit] at h
  cases h2 : a.testBit i
  · rw [h2] at h; cases h
  · rfl
theorem n_not {a b : Nat} (ha : a < 2147483648) (hb : b < 2147483648) : z_iand a (z_ixor b (-1)) = ((n_bd a b : Nat) : Int) := by
  have hle := n_bd_le a b
  have e1 : Int32.ofInt (z_ixor b (-1)) = Int32.ofInt b ^^^ Int32.ofInt (-1) := z_ot _
  have e : (BitVec.ofNat 32 a &&& (BitVec.ofNat 32 b ^^^ BitVec.ofInt 32 (-1))) = BitVec.ofNat 32 (n_bd a b) := by
    apply BitVec.eq_of_getLsbD_eq
    intro i hi
    have hx : (BitVec.ofInt 32 (-1)).getLsbD i = true := by
      have : BitVec.ofInt 32 (-1) = BitVec.allOnes 32 := by decide
      rw [this, BitVec.getLsbD_allOnes]; exact decide_eq_true hi
    rw [BitVec.getLsbD_and, BitVec.getLsbD_xor, hx, BitVec.getLsbD_ofNat, BitVec.getLsbD_ofNat, BitVec.getLsbD_ofNat, n_bd_bit, decide_eq_true hi]
    cases a.testBit i <;> cases b.testBit i <;> rfl
  show (Int32.ofInt a &&& Int32.ofInt (z_ixor b (-1))).toBitVec.toInt = _
  rw [e1, Int32.toBitVec_and, Int32.toBitVec_xor, n_bv, n_bv, Int32.toBitVec_ofInt, e, n_ti] <;> rw [BitVec.toNat_ofNat, Nat.mod_eq_of_lt (by omega)]
  omega
theorem n_bit {s h : Nat} (hs : s < 2147483648) (hh : h < 32) : z_iand (z_ishr s h) 1 = if s.testBit h then 1 else 0 := by
  have hl : s >>> h ≤ s := Nat.shiftRight_le s h
  rw [n_ishr hh hs, show (1 : Int) = ((1 : Nat) : Int) from rfl, n_iand (by omega) (by omega), Nat.and_comm]
  have e : s.testBit h = (1 &&& s >>> h != 0) := rfl
  rw [e, Nat.one_and_eq_mod_two]
  rcases Nat.mod_two_eq_zero_or_one (s >>> h) with q | q <;> rw [q] <;> rfl
theorem n_one {h : Nat} (hh : h < 31) : z_ishl 1 h = ((2 ^ h : Nat) : Int) := by
  have e : 1 <<< h = 2 ^ h := Nat.one_shiftLeft h
  have hp : 2 ^ h < 2 ^ 31 := Nat.pow_lt_pow_right (by decide) hh
  rw [show (1 : Int) = ((1 : Nat) : Int) from rfl, n_ishl (by omega) (by rw [e]; omega), e]
/-- the byte at a shift, by either shift to the right -/
theorem n_byte (x : Int) (k : Nat) (hk : k ≤ 24) : z_iand (z_iushr x k) 255 = z_iand (z_ishr x k) 255 := by
  have hs : (((Int32.ofInt (k : Int)).toUInt32 &&& Int32.toUInt32 31).toBitVec % 32).toNat = k := by
    have : ∀ k, k ≤ 24 → (((Int32.ofInt ((k : Nat) : Int)).toUInt32 &&& Int32.toUInt32 31).toBitVec % 32).toNat = k := by decide
    exact this k hk
  have e1 : Int32.ofInt (z_iushr x k) = ((Int32.ofInt x).toUInt32 >>> ((Int32.ofInt (k : Int)).toUInt32 &&& Int32.toUInt32 31)).toInt32 := z_ot _
  have e2 : Int32.ofInt (z_ishr x k) = Int32.ofInt x >>> (Int32.ofInt (k : Int) &&& 31) := z_ot _
  unfold z_iand
  rw [e1, e2]
  refine congrArg Int32.toInt (Int32.toBitVec_inj.mp ?_)
  rw [Int32.toBitVec_and, Int32.toBitVec_and, Int32.toBitVec_shiftRight]
  apply BitVec.eq_of_getLsbD_eq
  intro i hi
  rw [BitVec.getLsbD_and, BitVec.getLsbD_and]
  by_cases h8 : i < 8
  · have e3 : ((Int32.ofInt x).toUInt32 >>> ((Int32.ofInt (k : Int)).toUInt32 &&& Int32.toUInt32 31)).toInt32.toBitVec.getLsbD i = (Int32.ofInt x).toBitVec.getLsbD (k + i) := by
      show ((Int32.ofInt x).toBitVec >>> (((Int32.ofInt (k : Int)).toUInt32 &&& Int32.toUInt32 31).toBitVec % 32)).getLsbD i = _
      rw [BitVec.ushiftRight_eq', hs, BitVec.getLsbD_ushiftRight]
    have e4 : ((Int32.ofInt x).toBitVec.sshiftRight' ((Int32.ofInt (k : Int) &&& 31).toBitVec.smod 32)).getLsbD i = (Int32.ofInt x).toBitVec.getLsbD (k + i) := by
      show ((Int32.ofInt x).toBitVec.sshiftRight _).getLsbD i = _
      rw [n_sh k (by omega), BitVec.getLsbD_sshiftRight]
      have h1 : ¬ 32 ≤ i := by omega
      have h2 : k + i < 32 := by omega
      simp [h1, h2]
    rw [e3, e4]
  · have e5 : (Int32.ofInt 255).toBitVec.getLsbD i = false := by
      have : ∀ i, i < 32 → ¬ i < 8 → (Int32.ofInt 255).toBitVec.getLsbD i = false := by decide
      exact this i hi h8
    rw [e5, Bool.and_false, Bool.and_false]
theorem n_byte_lt (x : Int) : 0 ≤ z_iand x 255 ∧ z_iand x 255 < 256 := by
  have e : ((Int32.ofInt x).toBitVec &&& (Int32.ofInt 255).toBitVec).toNat < 256 := by
    rw [BitVec.toNat_and]
    exact Nat.lt_of_le_of_lt Nat.and_le_right (by decide)
  have e2 : z_iand x 255 = (((Int32.ofInt x).toBitVec &&& (Int32.ofInt 255).toBitVec).toNat : Int) := by
    show (Int32.ofInt x &&& Int32.ofInt 255).toBitVec.toInt = _
    rw [Int32.toBitVec_and, n_ti (by omega)]
  omega
theorem n_lc (x y : Int) (hx : -9223372036854775808 ≤ x) (hx' : x < 9223372036854775808) (hy : -9223372036854775808 ≤ y) (hy' : y < 9223372036854775808) : z_lcmp x y = if x > y then 1 else if x = y then 0 else -1 := by
  unfold z_lcmp lg_cmp
  have e1 : (Int64.ofInt x > Int64.ofInt y) ↔ x > y := by
    show Int64.ofInt y < Int64.ofInt x ↔ _
    rw [Int64.lt_iff_toInt_lt, n_oil hx hx', n_oil hy hy']
  have e2 : (Int64.ofInt x = Int64.ofInt y) ↔ x = y := by
    rw [← Int64.toInt_inj, n_oil hx hx', n_oil hy hy']
  by_cases h1 : x > y
  · rw [if_pos (e1.mpr h1), if_pos h1]; rfl
  · rw [if_neg (fun q => h1 (e1.mp q)), if_neg h1]
    by_cases h2 : x = y
    · rw [if_pos (e2.mpr h2), if_pos h2]; rfl
    · rw [if_neg (fun q => h2 (e2.mp q)), if_neg h2]; rfl
theorem n_lc_lt {x y : Int} (hx : -9223372036854775808 ≤ x) (hx' : x < 9223372036854775808) (hy : -9223372036854775808 ≤ y) (hy' : y < 9223372036854775808) : (z_w (z_lcmp x y) < 0) = (x < y) := by
  rw [n_lc x y hx hx' hy hy']; apply propext; repeat' split
  · rw [z_w_id (by decide) (by decide)]; omega
  · rw [z_w_id (by decide) (by decide)]; omega
  · rw [z_w_id (by decide) (by decide)]; omega
theorem n_lc_gt {x y : Int} (hx : -9223372036854775808 ≤ x) (hx' : x < 9223372036854775808) (hy : -9223372036854775808 ≤ y) (hy' : y < 9223372036854775808) : (0 < z_w (z_lcmp x y)) = (y < x) := by
  rw [n_lc x y hx hx' hy hy']; apply propext; repeat' split
  · rw [z_w_id (by decide) (by decide)]; omega
  · rw [z_w_id (by decide) (by decide)]; omega
  · rw [z_w_id (by decide) (by decide)]; omega
theorem n_lc_le {x y : Int} (hx : -9223372036854775808 ≤ x) (hx' : x < 9223372036854775808) (hy : -9223372036854775808 ≤ y) (hy' : y < 9223372036854775808) : (z_w (z_lcmp x y) ≤ 0) = (x ≤ y) := by
  rw [n_lc x y hx hx' hy hy']; apply propext; repeat' split
  · rw [z_w_id (by decide) (by decide)]; omega
  · rw [z_w_id (by decide) (by decide)]; omega
  · rw [z_w_id (by decide) (by decide)]; omega
theorem n_lc_ge {x y : Int} (hx : -9223372036854775808 ≤ x) (hx' : x < 9223372036854775808) (hy : -9223372036854775808 ≤ y) (hy' : y < 9223372036854775808) : (0 ≤ z_w (z_lcmp x y)) = (y ≤ x) := by
  rw [n_lc x y hx hx' hy hy']; apply propext; repeat' split
  · rw [z_w_id (by decide) (by decide)]; omega
  · rw [z_w_id (by decide) (by decide)]; omega
  · rw [z_w_id (by decide) (by decide)]; omega
theorem n_lc_eq {x y : Int} (hx : -9223372036854775808 ≤ x) (hx' : x < 9223372036854775808) (hy : -9223372036854775808 ≤ y) (hy' : y < 9223372036854775808) : (z_w (z_lcmp x y) = 0) = (x = y) := by
  rw [n_lc x y hx hx' hy hy']; apply propext; repeat' split
  · rw [z_w_id (by decide) (by decide)]; omega
  · rw [z_w_id (by decide) (by decide)]; omega
  · rw [z_w_id (by decide) (by decide)]; omega
