/-! ===== going through equations: what a call gives, what a cell holds behind a writing ===== -/
theorem e_bI {v : Int} {m : y_m} {k : Int → y_m → y_Rs} {h : Nat → y_m → y_Rs} : y_bI (y_rI v m) k h = k v m := rfl
theorem e_bIx {e : Nat} {m : y_m} {k : Int → y_m → y_Rs} {h : Nat → y_m → y_Rs} : y_bI (some (.inr e, m)) k h = h e m := rfl
theorem e_bL {v : Int} {m : y_m} {k : Int → y_m → y_Rs} {h : Nat → y_m → y_Rs} : y_bL (y_rL v m) k h = k v m := rfl
theorem e_bLx {e : Nat} {m : y_m} {k : Int → y_m → y_Rs} {h : Nat → y_m → y_Rs} : y_bL (some (.inr e, m)) k h = h e m := rfl
theorem e_bV {m : y_m} {k : y_m → y_Rs} {h : Nat → y_m → y_Rs} : y_bV (y_rV m) k h = k m := rfl
theorem e_bVx {e : Nat} {m : y_m} {k : y_m → y_Rs} {h : Nat → y_m → y_Rs} : y_bV (some (.inr e, m)) k h = h e m := rfl
theorem e_px {e : Nat} {m : y_m} : y_px e m = some (.inr e, m) := rfl
theorem e_g {p : Prop} [Decidable p] {r : y_Rs} (h : p) : y_g p r = r := if_pos h
theorem e_bb {r : y_Rs} : y_bb2 true r = r := rfl
theorem e_II {m : y_m} {a k : Nat} {x : Int} : y_mI (y_sI m a k x) a k = x := if_pos ⟨rfl, rfl⟩
theorem e_II' {m : y_m} {a k a' k' : Nat} {x : Int} (h : ¬ (a' = a ∧ k' = k)) : y_mI (y_sI m a k x) a' k' = y_mI m a' k' := if_neg h
theorem e_IJ {m : y_m} {a k a' k' : Nat} {x : Int} : y_mI (y_sJ m a k x) a' k' = y_mI m a' k' := rfl
theorem e_JI {m : y_m} {a k a' k' : Nat} {x : Int} : y_mJ (y_sI m a k x) a' k' = y_mJ m a' k' := rfl
theorem e_JJ {m : y_m} {a k : Nat} {x : Int} : y_mJ (y_sJ m a k x) a k = x := if_pos ⟨rfl, rfl⟩
theorem e_JJ' {m : y_m} {a k a' k' : Nat} {x : Int} (h : ¬ (a' = a ∧ k' = k)) : y_mJ (y_sJ m a k x) a' k' = y_mJ m a' k' := if_neg h
theorem e_cI {m : y_m} {a k : Nat} {x : Int} : y_mc (y_sI m a k x) = y_mc m := rfl
theorem e_xI {m : y_m} {a k : Nat} {x : Int} : y_mx (y_sI m a k x) = y_mx m := rfl
theorem e_cJ {m : y_m} {a k : Nat} {x : Int} : y_mc (y_sJ m a k x) = y_mc m := rfl
theorem e_xJ {m : y_m} {a k : Nat} {x : Int} : y_mx (y_sJ m a k x) = y_mx m := rfl
/-- a truth told as a number -/
theorem e_t0 {p : Prop} [Decidable p] : (z_w (if p then 1 else 0) = 0) = ¬ p := by
  by_cases h : p
  · rw [if_pos h]; exact propext ⟨fun q => absurd q (by decide), fun q => absurd h q⟩
  · rw [if_neg h]; exact propext ⟨fun _ => h, fun _ => by decide⟩
theorem e_t1 {p : Prop} [Decidable p] : (z_w (if p then 1 else 0) = 1) = p := by
  by_cases h : p
  · rw [if_pos h]; exact propext ⟨fun _ => h, fun q => by decide⟩
  · rw [if_neg h]; exact propext ⟨fun q => absurd q (by decide), fun q => absurd q h⟩
theorem e_tt {p : Prop} [Decidable p] : (if p then (1 : Int) else 0) = 0 ∨ (if p then (1 : Int) else 0) = 1 := by
  by_cases h : p
  · rw [if_pos h]; exact Or.inr rfl
  · rw [if_neg h]; exact Or.inl rfl
theorem e_ri {p : Prop} [Decidable p] {x y : Int} {m : y_m} : (if p then y_rI x m else y_rI y m) = y_rI (if p then x else y) m := by
  by_cases h : p
  · rw [if_pos h, if_pos h]
  · rw [if_neg h, if_neg h]
theorem e_wl {n : Nat} (h : n ≤ 1000000) : z_w (n : Int) = n := z_w_id (by omega) (by omega)
section Leaf
variable {sp : Nat → Nat} {ph : Bool} {d : Nat} {m : y_m}
/-- Rows -/
theorem s_7 {n a : Nat} {x : Int} (hn : n ≤ 1000000) (h0 : 0 ≤ x) (h1 : x < n) : y_V sp ph (d + 1) 7 [y_bo 100 n a, y_bi x] m = y_rI (y_mI m a x.toNat) m := by
  simp (disch := omega) only [y_C_7, y_E_7_0, y_E_7_16, y_E_7_17, z_w_id, if_neg, e_g]
theorem s_7o {n a : Nat} {x : Int} (hn : n ≤ 1000000) (h : -2147483648 ≤ x) (h' : x < 2147483648) (h0 : x < 0 ∨ (n : Int) ≤ x) : y_V sp ph (d + 1) 7 [y_bo 100 n a, y_bi x] m = y_rI 0 m := by
  by_cases hx : x < 0
  · simp (disch := omega) only [y_C_7, y_E_7_0, y_E_7_16, y_E_7_17, z_w_id, if_pos]
  · simp (disch := omega) only [y_C_7, y_E_7_0, y_E_7_16, y_E_7_17, z_w_id, if_pos, if_neg]
theorem s_8 {n a : Nat} {x v : Int} (hn : n ≤ 1000000) (h0 : 0 ≤ x) (h1 : x < n) : y_V sp ph (d + 1) 8 [y_bo 100 n a, y_bi x, y_bi v] m = y_rV (y_sI m a x.toNat v) := by
  simp (disch := omega) only [y_C_8, y_E_8_0, y_E_8_14, z_w_id, if_neg, e_g]
theorem s_9 {n a : Nat} {x : Int} (hn : n ≤ 1000000) (h0 : 0 ≤ x) (h1 : x < n) : y_V sp ph (d + 1) 9 [y_bo 101 n a, y_bi x] m = y_rL (y_mJ m a x.toNat) m := by
  simp (disch := omega) only [y_C_9, y_E_9_0, y_E_9_16, y_E_9_17, z_w_id, if_neg, e_g]
theorem s_9o {n a : Nat} {x : Int} (hn : n ≤ 1000000) (h : -2147483648 ≤ x) (h' : x < 2147483648) (h0 : x < 0 ∨ (n : Int) ≤ x) : y_V sp ph (d + 1) 9 [y_bo 101 n a, y_bi x] m = y_rL 0 m := by
  by_cases hx : x < 0
  · simp (disch := omega) only [y_C_9, y_E_9_0, y_E_9_16, y_E_9_17, z_w_id, if_pos]
  · simp (disch := omega) only [y_C_9, y_E_9_0, y_E_9_16, y_E_9_17, z_w_id, if_pos, if_neg]
theorem s_10 {n a : Nat} {x v : Int} (hn : n ≤ 1000000) (h0 : 0 ≤ x) (h1 : x < n) : y_V sp ph (d + 1) 10 [y_bo 101 n a, y_bi x, y_bl v] m = y_rV (y_sJ m a x.toNat v) := by
  simp (disch := omega) only [y_C_10, y_E_10_0, y_E_10_14, z_w_id, if_neg, e_g]
/-- Math -/
theorem s_3 {x : Int} (h : -1000000 ≤ x) (h' : x ≤ 1000000) : y_V sp ph (d + 1) 3 [y_bi x] m = y_rI (x.natAbs : Int) m := by
  by_cases hx : 0 ≤ x
  · simp (disch := omega) only [y_C_3, y_E_3_0, y_E_3_9, y_E_3_10, z_w_id, if_pos]
    rw [show ((x.natAbs : Nat) : Int) = x by omega]
  · simp (disch := omega) only [y_C_3, y_E_3_0, y_E_3_9, y_E_3_10, z_w_id, if_neg]
    rw [show ((x.natAbs : Nat) : Int) = -x by omega]
theorem s_4 {x y : Int} (h : -2147483648 ≤ x) (h' : x < 2147483648) (g : -2147483648 ≤ y) (g' : y < 2147483648) : y_V sp ph (d + 1) 4 [y_bi x, y_bi y] m = y_rI (if x < y then y else x) m := by
  by_cases hx : x < y
  · simp (disch := omega) only [y_C_4, y_E_4_0, y_E_4_9, y_E_4_10, z_w_id, if_pos]
  · simp (disch := omega) only [y_C_4, y_E_4_0, y_E_4_9, y_E_4_10, z_w_id, if_neg]
theorem s_5 {x y : Int} (h : -2147483648 ≤ x) (h' : x < 2147483648) (g : -2147483648 ≤ y) (g' : y < 2147483648) : y_V sp ph (d + 1) 5 [y_bi x, y_bi y] m = y_rI (if y < x then y else x) m := by
  by_cases hx : y < x
  · simp (disch := omega) only [y_C_5, y_E_5_0, y_E_5_9, y_E_5_10, z_w_id, if_pos]
  · simp (disch := omega) only [y_C_5, y_E_5_0, y_E_5_9, y_E_5_10, z_w_id, if_neg]
theorem s_6 {x y : Int} (h : -9223372036854775808 ≤ x) (h' : x < 9223372036854775808) (g : -9223372036854775808 ≤ y) (g' : y < 9223372036854775808) : y_V sp ph (d + 1) 6 [y_bl x, y_bl y] m = y_rL (if y < x then y else x) m := by
  by_cases hx : y < x
  · simp (disch := omega) only [y_C_6, y_E_6_0, y_E_6_10, y_E_6_11, n_lc_gt, if_pos]
  · simp (disch := omega) only [y_C_6, y_E_6_0, y_E_6_10, y_E_6_11, n_lc_gt, if_neg]
/-- floorMod, over the numbers that occur -/
def n_fm (x y : Int) : Int := if 0 ≤ z_w (z_ixor x y) then z_irem x y else if z_w (z_irem x y) = 0 then z_irem x y else z_irem x y + y
theorem n_fm_ok : ∀ x, x < 64 → ∀ y, y < 12 → n_fm (((x : Nat) : Int) - 32) (((y : Nat) : Int) + 1) = (((x : Nat) : Int) - 32) % (((y : Nat) : Int) + 1) := by decide +kernel
theorem s_2 {x y : Int} (h : -32 ≤ x) (h' : x < 32) (g : 0 < y) (g' : y ≤ 12) : y_V sp ph (d + 1) 2 [y_bi x, y_bi y] m = y_rI (x % y) m := by
  have e := n_fm_ok (x + 32).toNat (by omega) (y - 1).toNat (by omega)
  rw [show (((x + 32).toNat : Nat) : Int) - 32 = x by omega, show (((y - 1).toNat : Nat) : Int) + 1 = y by omega] at e
  rw [← e]
  simp (disch := omega) only [y_C_2, y_E_2_0, y_E_2_18, z_w_id, e_g]
  unfold n_fm
  repeat' split
  all_goals rfl
/-- bits of a number below 4096: how many, the least -/
def n_bits (x : Nat) : List Nat := (List.range 12).filter (fun i => x.testBit i)
def n_pop (x : Nat) : Nat := (n_bits x).length
def n_low (x : Nat) : Nat := (n_bits x).headD 0
def n_ntz (x : Int) : Int :=
  let y := z_iand (z_ixor x (-1)) (x - 1)
  if 0 < z_w y then
    let p : Int × Int := if z_w y ≤ 65536 then (y, 1) else (z_iushr y 16, 1 + 16)
    let p : Int × Int := if z_w p.1 ≤ 256 then p else (z_iushr p.1 8, p.2 + 8)
    let p : Int × Int := if z_w p.1 ≤ 16 then p else (z_iushr p.1 4, p.2 + 4)
    let p : Int × Int := if z_w p.1 ≤ 4 then p else (z_iushr p.1 2, p.2 + 2)
    p.2 + z_iushr p.1 1
  else z_iand y 32
theorem n_ntz_64 : ∀ x, x < 64 → ∀ y, y < 64 → 0 < 64 * x + y → n_ntz ((64 * x + y : Nat) : Int) = n_low (64 * x + y) := by decide +kernel
theorem n_ntz_ok (x : Nat) (h : x < 4096) (h' : 0 < x) : n_ntz ((x : Nat) : Int) = n_low x := by
  have e := n_ntz_64 (x / 64) (by omega) (x % 64) (by omega)
  rw [show 64 * (x / 64) + x % 64 = x by omega] at e
  exact e h'
theorem s_0 {x : Nat} (h : x < 4096) (h' : 0 < x) : y_V sp ph (d + 1) 0 [y_bi (x : Int)] m = y_rI (n_low x : Int) m := by
  rw [← n_ntz_ok x h h']
  simp only [y_C_0, y_E_0_0, y_E_0_17, y_E_0_34, y_E_0_49, y_E_0_62, y_E_0_74, n_ntz]
  split
  · split <;> split <;> split <;> split <;> rfl
  · rfl
def n_bc (x : Int) : Int :=
  let a := x - z_iand (z_iushr x 1) 1431655765
  let b := z_iand a 858993459 + z_iand (z_iushr a 2) 858993459
  let c := z_iand (b + z_iushr b 4) 252645135
  let e := c + z_iushr c 8
  let f := e + z_iushr e 16
  z_iand f 63
theorem n_bc_64 : ∀ x, x < 64 → ∀ y, y < 64 → n_bc ((64 * x + y : Nat) : Int) = n_pop (64 * x + y) := by decide +kernel
theorem n_bc_ok (x : Nat) (h : x < 4096) : n_bc ((x : Nat) : Int) = n_pop x := by
  have e := n_bc_64 (x / 64) (by omega) (x % 64) (by omega)
  rw [show 64 * (x / 64) + x % 64 = x by omega] at e
  exact e
theorem s_1 {x : Nat} (h : x < 4096) : y_V sp ph (d + 1) 1 [y_bi (x : Int)] m = y_rI (n_pop x : Int) m := by
  rw [← n_bc_ok x h]
  simp only [y_C_1, y_E_1_0]
  rfl
end Leaf
