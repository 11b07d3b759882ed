section YEq0_20
variable {sp : Nat → Nat} {ph : Bool}
/-! java/lang/Integer.numberOfTrailingZeros (I)I -/
set_option maxRecDepth 4000 in
theorem y_E_0_0 (d : Nat) (x0 : Int) (m : y_m) : y_R sp ph d 0 0 [some (y_bi x0), none] [] m = if 0 < z_w (z_iand (z_ixor x0 (-1)) (x0 - 1)) then y_R sp ph d 0 17 [some (y_bi (z_iand (z_ixor x0 (-1)) (x0 - 1))), none] [] m else y_rI (z_iand (z_iand (z_ixor x0 (-1)) (x0 - 1)) 32) m := (y_R_eq (md := z_md_0) rfl rfl).trans rfl
set_option maxRecDepth 4000 in
theorem y_E_0_17 (d : Nat) (x0 : Int) (m : y_m) : y_R sp ph d 0 17 [some (y_bi x0), none] [] m = if z_w x0 ≤ 65536 then y_R sp ph d 0 34 [some (y_bi x0), some (y_bi 1)] [] m else y_R sp ph d 0 34 [some (y_bi (z_iushr x0 16)), some (y_bi (1 + 16))] [] m := (y_R_eq (md := z_md_0) rfl rfl).trans rfl
set_option maxRecDepth 4000 in
theorem y_E_0_34 (d : Nat) (x0 : Int) (x1 : Int) (m : y_m) : y_R sp ph d 0 34 [some (y_bi x0), some (y_bi x1)] [] m = if z_w x0 ≤ 256 then y_R sp ph d 0 49 [some (y_bi x0), some (y_bi x1)] [] m else y_R sp ph d 0 49 [some (y_bi (z_iushr x0 8)), some (y_bi (x1 + 8))] [] m := (y_R_eq (md := z_md_0) rfl rfl).trans rfl
set_option maxRecDepth 4000 in
theorem y_E_0_49 (d : Nat) (x0 : Int) (x1 : Int) (m : y_m) : y_R sp ph d 0 49 [some (y_bi x0), some (y_bi x1)] [] m = if z_w x0 ≤ 16 then y_R sp ph d 0 62 [some (y_bi x0), some (y_bi x1)] [] m else y_R sp ph d 0 62 [some (y_bi (z_iushr x0 4)), some (y_bi (x1 + 4))] [] m := (y_R_eq (md := z_md_0) rfl rfl).trans rfl
set_option maxRecDepth 4000 in
theorem y_E_0_62 (d : Nat) (x0 : Int) (x1 : Int) (m : y_m) : y_R sp ph d 0 62 [some (y_bi x0), some (y_bi x1)] [] m = if z_w x0 ≤ 4 then y_R sp ph d 0 74 [some (y_bi x0), some (y_bi x1)] [] m else y_R sp ph d 0 74 [some (y_bi (z_iushr x0 2)), some (y_bi (x1 + 2))] [] m := (y_R_eq (md := z_md_0) rfl rfl).trans rfl
set_option maxRecDepth 4000 in
theorem y_E_0_74 (d : Nat) (x0 : Int) (x1 : Int) (m : y_m) : y_R sp ph d 0 74 [some (y_bi x0), some (y_bi x1)] [] m = y_rI (x1 + (z_iushr x0 1)) m := (y_R_eq (md := z_md_0) rfl rfl).trans rfl
set_option maxRecDepth 4000 in
theorem y_C_0 (d : Nat) (x0 : Int) (m : y_m) : y_V sp ph (d + 1) 0 [y_bi x0] m = y_R sp ph d 0 0 [some (y_bi x0), none] [] m := (y_V_eq (md := z_md_0) rfl rfl rfl).trans rfl
/-! java/lang/Integer.bitCount (I)I -/
set_option maxRecDepth 4000 in
theorem y_E_1_0 (d : Nat) (x0 : Int) (m : y_m) : y_R sp ph d 1 0 [some (y_bi x0)] [] m = y_rI (z_iand (((z_iand (((z_iand (x0 - (z_iand (z_iushr x0 1) 1431655765)) 858993459) + (z_iand (z_iushr (x0 - (z_iand (z_iushr x0 1) 1431655765)) 2) 858993459)) + (z_iushr ((z_iand (x0 - (z_iand (z_iushr x0 1) 1431655765)) 858993459) + (z_iand (z_iushr (x0 - (z_iand (z_iushr x0 1) 1431655765)) 2) 858993459)) 4)) 252645135) + (z_iushr (z_iand (((z_iand (x0 - (z_iand (z_iushr x0 1) 1431655765)) 858993459) + (z_iand (z_iushr (x0 - (z_iand (z_iushr x0 1) 1431655765)) 2) 858993459)) + (z_iushr ((z_iand (x0 - (z_iand (z_iushr x0 1) 1431655765)) 858993459) + (z_iand (z_iushr (x0 - (z_iand (z_iushr x0 1) 1431655765)) 2) 858993459)) 4)) 252645135) 8)) + (z_iushr ((z_iand (((z_iand (x0 - (z_iand (z_iushr x0 1) 1431655765)) 858993459) + (z_iand (z_iushr (x0 - (z_iand (z_iushr x0 1) 1431655765)) 2) 858993459)) + (z_iushr ((z_iand (x0 - (z_iand (z_iushr x0 1) 1431655765)) 858993459) + (z_iand (z_iushr (x0 - (z_iand (z_iushr x0 1) 1431655765)) 2) 858993459)) 4)) 252645135) + (z_iushr (z_iand (((z_iand (x0 - (z_iand (z_iushr x0 1) 1431655765)) 858993459) + (z_iand (z_iushr (x0 - (z_iand (z_iushr x0 1) 1431655765)) 2) 858993459)) + (z_iushr ((z_iand (x0 - (z_iand (z_iushr x0 1) 1431655765)) 858993459) + (z_iand (z_iushr (x0 - (z_iand (z_iushr x0 1) 1431655765)) 2) 858993459)) 4)) 252645135) 8)) 16)) 63) m := (y_R_eq (md := z_md_1) rfl rfl).trans rfl
set_option maxRecDepth 4000 in
theorem y_C_1 (d : Nat) (x0 : Int) (m : y_m) : y_V sp ph (d + 1) 1 [y_bi x0] m = y_R sp ph d 1 0 [some (y_bi x0)] [] m := (y_V_eq (md := z_md_1) rfl rfl rfl).trans rfl
/-! java/lang/Math.floorMod (II)I -/
set_option maxRecDepth 4000 in
theorem y_E_2_0 (d : Nat) (x0 : Int) (x1 : Int) (m : y_m) : y_R sp ph d 2 0 [some (y_bi x0), some (y_bi x1), none] [] m = y_g (z_w x1 ≠ 0) (if 0 ≤ z_w (z_ixor x0 x1) then y_R sp ph d 2 18 [none, none, some (y_bi (z_irem x0 x1))] [] m else if z_w (z_irem x0 x1) = 0 then y_R sp ph d 2 18 [none, none, some (y_bi (z_irem x0 x1))] [] m else y_rI ((z_irem x0 x1) + x1) m) := (y_R_eq (md := z_md_2) rfl rfl).trans rfl
set_option maxRecDepth 4000 in
theorem y_E_2_18 (d : Nat) (x2 : Int) (m : y_m) : y_R sp ph d 2 18 [none, none, some (y_bi x2)] [] m = y_rI x2 m := (y_R_eq (md := z_md_2) rfl rfl).trans rfl
set_option maxRecDepth 4000 in
theorem y_C_2 (d : Nat) (x0 : Int) (x1 : Int) (m : y_m) : y_V sp ph (d + 1) 2 [y_bi x0, y_bi x1] m = y_R sp ph d 2 0 [some (y_bi x0), some (y_bi x1), none] [] m := (y_V_eq (md := z_md_2) rfl rfl rfl).trans rfl
/-! java/lang/Math.abs (I)I -/
set_option maxRecDepth 4000 in
theorem y_E_3_0 (d : Nat) (x0 : Int) (m : y_m) : y_R sp ph d 3 0 [some (y_bi x0)] [] m = if 0 ≤ z_w x0 then y_R sp ph d 3 9 [some (y_bi x0)] [] m else y_R sp ph d 3 10 [none] [y_bi (-x0)] m := (y_R_eq (md := z_md_3) rfl rfl).trans rfl
set_option maxRecDepth 4000 in
theorem y_E_3_9 (d : Nat) (x0 : Int) (m : y_m) : y_R sp ph d 3 9 [some (y_bi x0)] [] m = y_R sp ph d 3 10 [none] [y_bi x0] m := (y_R_eq (md := z_md_3) rfl rfl).trans rfl
set_option maxRecDepth 4000 in
theorem y_E_3_10 (d : Nat) (xs0 : Int) (m : y_m) : y_R sp ph d 3 10 [none] [y_bi xs0] m = y_rI xs0 m := (y_R_eq (md := z_md_3) rfl rfl).trans rfl
set_option maxRecDepth 4000 in
theorem y_C_3 (d : Nat) (x0 : Int) (m : y_m) : y_V sp ph (d + 1) 3 [y_bi x0] m = y_R sp ph d 3 0 [some (y_bi x0)] [] m := (y_V_eq (md := z_md_3) rfl rfl rfl).trans rfl
/-! java/lang/Math.max (II)I -/
set_option maxRecDepth 4000 in
theorem y_E_4_0 (d : Nat) (x0 : Int) (x1 : Int) (m : y_m) : y_R sp ph d 4 0 [some (y_bi x0), some (y_bi x1)] [] m = if z_w x0 < z_w x1 then y_R sp ph d 4 9 [none, some (y_bi x1)] [] m else y_R sp ph d 4 10 [none, none] [y_bi x0] m := (y_R_eq (md := z_md_4) rfl rfl).trans rfl
set_option maxRecDepth 4000 in
theorem y_E_4_9 (d : Nat) (x1 : Int) (m : y_m) : y_R sp ph d 4 9 [none, some (y_bi x1)] [] m = y_R sp ph d 4 10 [none, none] [y_bi x1] m := (y_R_eq (md := z_md_4) rfl rfl).trans rfl
set_option maxRecDepth 4000 in
theorem y_E_4_10 (d : Nat) (xs0 : Int) (m : y_m) : y_R sp ph d 4 10 [none, none] [y_bi xs0] m = y_rI xs0 m := (y_R_eq (md := z_md_4) rfl rfl).trans rfl
set_option maxRecDepth 4000 in
theorem y_C_4 (d : Nat) (x0 : Int) (x1 : Int) (m : y_m) : y_V sp ph (d + 1) 4 [y_bi x0, y_bi x1] m = y_R sp ph d 4 0 [some (y_bi x0), some (y_bi x1)] [] m := (y_V_eq (md := z_md_4) rfl rfl rfl).trans rfl
/-! java/lang/Math.min (II)I -/
set_option maxRecDepth 4000 in
theorem y_E_5_0 (d : Nat) (x0 : Int) (x1 : Int) (m : y_m) : y_R sp ph d 5 0 [some (y_bi x0), some (y_bi x1)] [] m = if z_w x1 < z_w x0 then y_R sp ph d 5 9 [none, some (y_bi x1)] [] m else y_R sp ph d 5 10 [none, none] [y_bi x0] m := (y_R_eq (md := z_md_5) rfl rfl).trans rfl
set_option maxRecDepth 4000 in
theorem y_E_5_9 (d : Nat) (x1 : Int) (m : y_m) : y_R sp ph d 5 9 [none, some (y_bi x1)] [] m = y_R sp ph d 5 10 [none, none] [y_bi x1] m := (y_R_eq (md := z_md_5) rfl rfl).trans rfl
set_option maxRecDepth 4000 in
theorem y_E_5_10 (d : Nat) (xs0 : Int) (m : y_m) : y_R sp ph d 5 10 [none, none] [y_bi xs0] m = y_rI xs0 m := (y_R_eq (md := z_md_5) rfl rfl).trans rfl
set_option maxRecDepth 4000 in
theorem y_C_5 (d : Nat) (x0 : Int) (x1 : Int) (m : y_m) : y_V sp ph (d + 1) 5 [y_bi x0, y_bi x1] m = y_R sp ph d 5 0 [some (y_bi x0), some (y_bi x1)] [] m := (y_V_eq (md := z_md_5) rfl rfl rfl).trans rfl
/-! java/lang/Math.min (JJ)J -/
set_option maxRecDepth 4000 in
theorem y_E_6_0 (d : Nat) (x0 : Int) (x2 : Int) (m : y_m) : y_R sp ph d 6 0 [some (y_bl x0), none, some (y_bl x2), none] [] m = if 0 < z_w (z_lcmp x0 x2) then y_R sp ph d 6 10 [none, none, some (y_bl x2), none] [] m else y_R sp ph d 6 11 [none, none, none, none] [y_bl x0] m := (y_R_eq (md := z_md_6) rfl rfl).trans rfl
set_option maxRecDepth 4000 in
theorem y_E_6_10 (d : Nat) (x2 : Int) (m : y_m) : y_R sp ph d 6 10 [none, none, some (y_bl x2), none] [] m = y_R sp ph d 6 11 [none, none, none, none] [y_bl x2] m := (y_R_eq (md := z_md_6) rfl rfl).trans rfl
set_option maxRecDepth 4000 in
theorem y_E_6_11 (d : Nat) (xs0 : Int) (m : y_m) : y_R sp ph d 6 11 [none, none, none, none] [y_bl xs0] m = y_rL xs0 m := (y_R_eq (md := z_md_6) rfl rfl).trans rfl
set_option maxRecDepth 4000 in
theorem y_C_6 (d : Nat) (x0 : Int) (x2 : Int) (m : y_m) : y_V sp ph (d + 1) 6 [y_bl x0, y_bl x2] m = y_R sp ph d 6 0 [some (y_bl x0), none, some (y_bl x2), none] [] m := (y_V_eq (md := z_md_6) rfl rfl rfl).trans rfl
/-! LacedHoles$Rows.get ([II)I -/
set_option maxRecDepth 4000 in
theorem y_E_7_0 (d : Nat) (a0 : Nat) (n0 : Nat) (x1 : Int) (m : y_m) : y_R sp ph d 7 0 [some (y_bo 100 n0 a0), some (y_bi x1)] [] m = if z_w x1 < 0 then y_R sp ph d 7 16 [none, none] [] m else if z_w (n0 : Int) ≤ z_w x1 then y_R sp ph d 7 16 [none, none] [] m else y_g (0 ≤ x1 ∧ x1 < (n0 : Int)) (y_R sp ph d 7 17 [none, none] [y_bi (y_mI m a0 x1.toNat)] m) := (y_R_eq (md := z_md_7) rfl rfl).trans rfl
set_option maxRecDepth 4000 in
theorem y_E_7_16 (d : Nat) (m : y_m) : y_R sp ph d 7 16 [none, none] [] m = y_R sp ph d 7 17 [none, none] [y_bi 0] m := (y_R_eq (md := z_md_7) rfl rfl).trans rfl
set_option maxRecDepth 4000 in
theorem y_E_7_17 (d : Nat) (xs0 : Int) (m : y_m) : y_R sp ph d 7 17 [none, none] [y_bi xs0] m = y_rI xs0 m := (y_R_eq (md := z_md_7) rfl rfl).trans rfl
set_option maxRecDepth 4000 in
theorem y_C_7 (d : Nat) (a0 : Nat) (n0 : Nat) (x1 : Int) (m : y_m) : y_V sp ph (d + 1) 7 [y_bo 100 n0 a0, y_bi x1] m = y_R sp ph d 7 0 [some (y_bo 100 n0 a0), some (y_bi x1)] [] m := (y_V_eq (md := z_md_7) rfl rfl rfl).trans rfl
/-! LacedHoles$Rows.set ([III)V -/
set_option maxRecDepth 4000 in
theorem y_E_8_0 (d : Nat) (a0 : Nat) (n0 : Nat) (x1 : Int) (x2 : Int) (m : y_m) : y_R sp ph d 8 0 [some (y_bo 100 n0 a0), some (y_bi x1), some (y_bi x2)] [] m = if z_w x1 < 0 then y_R sp ph d 8 14 [none, none, none] [] m else if z_w (n0 : Int) ≤ z_w x1 then y_R sp ph d 8 14 [none, none, none] [] m else y_g (0 ≤ x1 ∧ x1 < (n0 : Int)) (y_R sp ph d 8 14 [none, none, none] [] (y_sI m a0 x1.toNat x2)) := (y_R_eq (md := z_md_8) rfl rfl).trans rfl
set_option maxRecDepth 4000 in
theorem y_E_8_14 (d : Nat) (m : y_m) : y_R sp ph d 8 14 [none, none, none] [] m = y_rV m := (y_R_eq (md := z_md_8) rfl rfl).trans rfl
set_option maxRecDepth 4000 in
theorem y_C_8 (d : Nat) (a0 : Nat) (n0 : Nat) (x1 : Int) (x2 : Int) (m : y_m) : y_V sp ph (d + 1) 8 [y_bo 100 n0 a0, y_bi x1, y_bi x2] m = y_R sp ph d 8 0 [some (y_bo 100 n0 a0), some (y_bi x1), some (y_bi x2)] [] m := (y_V_eq (md := z_md_8) rfl rfl rfl).trans rfl
/-! LacedHoles$Rows.get ([JI)J -/
set_option maxRecDepth 4000 in
theorem y_E_9_0 (d : Nat) (a0 : Nat) (n0 : Nat) (x1 : Int) (m : y_m) : y_R sp ph d 9 0 [some (y_bo 101 n0 a0), some (y_bi x1)] [] m = if z_w x1 < 0 then y_R sp ph d 9 16 [none, none] [] m else if z_w (n0 : Int) ≤ z_w x1 then y_R sp ph d 9 16 [none, none] [] m else y_g (0 ≤ x1 ∧ x1 < (n0 : Int)) (y_R sp ph d 9 17 [none, none] [y_bl (y_mJ m a0 x1.toNat)] m) := (y_R_eq (md := z_md_9) rfl rfl).trans rfl
set_option maxRecDepth 4000 in
theorem y_E_9_16 (d : Nat) (m : y_m) : y_R sp ph d 9 16 [none, none] [] m = y_R sp ph d 9 17 [none, none] [y_bl 0] m := (y_R_eq (md := z_md_9) rfl rfl).trans rfl
set_option maxRecDepth 4000 in
theorem y_E_9_17 (d : Nat) (xs0 : Int) (m : y_m) : y_R sp ph d 9 17 [none, none] [y_bl xs0] m = y_rL xs0 m := (y_R_eq (md := z_md_9) rfl rfl).trans rfl
set_option maxRecDepth 4000 in
theorem y_C_9 (d : Nat) (a0 : Nat) (n0 : Nat) (x1 : Int) (m : y_m) : y_V sp ph (d + 1) 9 [y_bo 101 n0 a0, y_bi x1] m = y_R sp ph d 9 0 [some (y_bo 101 n0 a0), some (y_bi x1)] [] m := (y_V_eq (md := z_md_9) rfl rfl rfl).trans rfl
/-! LacedHoles$Rows.set ([JIJ)V -/
set_option maxRecDepth 4000 in
theorem y_E_10_0 (d : Nat) (a0 : Nat) (n0 : Nat) (x1 : Int) (x2 : Int) (m : y_m) : y_R sp ph d 10 0 [some (y_bo 101 n0 a0), some (y_bi x1), some (y_bl x2), none] [] m = if z_w x1 < 0 then y_R sp ph d 10 14 [none, none, none, none] [] m else if z_w (n0 : Int) ≤ z_w x1 then y_R sp ph d 10 14 [none, none, none, none] [] m else y_g (0 ≤ x1 ∧ x1 < (n0 : Int)) (y_R sp ph d 10 14 [none, none, none, none] [] (y_sJ m a0 x1.toNat x2)) := (y_R_eq (md := z_md_10) rfl rfl).trans rfl
set_option maxRecDepth 4000 in
theorem y_E_10_14 (d : Nat) (m : y_m) : y_R sp ph d 10 14 [none, none, none, none] [] m = y_rV m := (y_R_eq (md := z_md_10) rfl rfl).trans rfl
set_option maxRecDepth 4000 in
theorem y_C_10 (d : Nat) (a0 : Nat) (n0 : Nat) (x1 : Int) (x2 : Int) (m : y_m) : y_V sp ph (d + 1) 10 [y_bo 101 n0 a0, y_bi x1, y_bl x2] m = y_R sp ph d 10 0 [some (y_bo 101 n0 a0), some (y_bi x1), some (y_bl x2), none] [] m := (y_V_eq (md := z_md_10) rfl rfl rfl).trans rfl
/-! LacedHoles$Tape.hasRoom ()Z -/
set_option maxRecDepth 4000 in
theorem y_E_12_0 (d : Nat) (a0 : Nat) (m : y_m) : y_R sp ph d 12 0 [some (y_bo 6 0 a0)] [] m = if 400 < z_w ((y_mI m a0 1) + 20) then y_R sp ph d 12 17 [none] [] m else y_R sp ph d 12 18 [none] [y_bi 1] m := (y_R_eq (md := z_md_12) rfl rfl).trans rfl
set_option maxRecDepth 4000 in
theorem y_E_12_17 (d : Nat) (m : y_m) : y_R sp ph d 12 17 [none] [] m = y_R sp ph d 12 18 [none] [y_bi 0] m := (y_R_eq (md := z_md_12) rfl rfl).trans rfl
set_option maxRecDepth 4000 in
theorem y_E_12_18 (d : Nat) (xs0 : Int) (m : y_m) : y_R sp ph d 12 18 [none] [y_bi xs0] m = y_g (xs0 = 0 ∨ xs0 = 1) (y_rI xs0 m) := (y_R_eq (md := z_md_12) rfl rfl).trans rfl
set_option maxRecDepth 4000 in
theorem y_C_12 (d : Nat) (a0 : Nat) (m : y_m) : y_V sp ph (d + 1) 12 [y_bo 6 0 a0] m = y_R sp ph d 12 0 [some (y_bo 6 0 a0)] [] m := (y_V_eq (md := z_md_12) rfl rfl rfl).trans rfl
/-! LacedHoles$Tape.put (I)V -/
set_option maxRecDepth 4000 in
theorem y_E_13_0 (d : Nat) (a0 : Nat) (x1 : Int) (m : y_m) : y_R sp ph d 13 0 [some (y_bo 6 0 a0), some (y_bi x1), none] [] m = y_R sp ph d 13 3 [some (y_bo 6 0 a0), some (y_bi x1), some (y_bi 24)] [] m := (y_R_eq (md := z_md_13) rfl rfl).trans rfl
set_option maxRecDepth 4000 in
theorem y_E_13_3 (d : Nat) (a0 : Nat) (x1 : Int) (x2 : Int) (m : y_m) : y_R sp ph d 13 3 [some (y_bo 6 0 a0), some (y_bi x1), some (y_bi x2)] [] m = if z_w x2 < 0 then y_R sp ph d 13 41 [none, none, none] [] m else y_bV (y_V sp ph d 8 [y_bo 100 400 2, y_bi (y_mI m a0 1), y_bi (z_iand (z_iushr x1 x2) 255)] m) (fun m1 => y_R sp ph d 13 3 [some (y_bo 6 0 a0), some (y_bi x1), some (y_bi (x2 + (-8)))] [] (y_sI m1 a0 1 ((y_mI m1 a0 1) + 1))) (fun e m1 => y_px e m1) := (y_R_eq (md := z_md_13) rfl rfl).trans rfl
set_option maxRecDepth 4000 in
theorem y_E_13_41 (d : Nat) (m : y_m) : y_R sp ph d 13 41 [none, none, none] [] m = y_rV m := (y_R_eq (md := z_md_13) rfl rfl).trans rfl
set_option maxRecDepth 4000 in
theorem y_C_13 (d : Nat) (a0 : Nat) (x1 : Int) (m : y_m) : y_V sp ph (d + 1) 13 [y_bo 6 0 a0, y_bi x1] m = y_R sp ph d 13 0 [some (y_bo 6 0 a0), some (y_bi x1), none] [] m := (y_V_eq (md := z_md_13) rfl rfl rfl).trans rfl
/-! LacedHoles$Tape.size ()I -/
set_option maxRecDepth 4000 in
theorem y_E_14_0 (d : Nat) (a0 : Nat) (m : y_m) : y_R sp ph d 14 0 [some (y_bo 6 0 a0)] [] m = y_rI (y_mI m a0 1) m := (y_R_eq (md := z_md_14) rfl rfl).trans rfl
set_option maxRecDepth 4000 in
theorem y_C_14 (d : Nat) (a0 : Nat) (m : y_m) : y_V sp ph (d + 1) 14 [y_bo 6 0 a0] m = y_R sp ph d 14 0 [some (y_bo 6 0 a0)] [] m := (y_V_eq (md := z_md_14) rfl rfl rfl).trans rfl
/-! LacedHoles$Tape.empty ()V -/
set_option maxRecDepth 4000 in
theorem y_E_15_0 (d : Nat) (a0 : Nat) (m : y_m) : y_R sp ph d 15 0 [some (y_bo 6 0 a0)] [] m = y_rV (y_sI m a0 1 0) := (y_R_eq (md := z_md_15) rfl rfl).trans rfl
set_option maxRecDepth 4000 in
theorem y_C_15 (d : Nat) (a0 : Nat) (m : y_m) : y_V sp ph (d + 1) 15 [y_bo 6 0 a0] m = y_R sp ph d 15 0 [some (y_bo 6 0 a0)] [] m := (y_V_eq (md := z_md_15) rfl rfl rfl).trans rfl
/-! LacedHoles$Tape.open (I)V -/
set_option maxRecDepth 4000 in
theorem y_E_16_0 (d : Nat) (a0 : Nat) (x1 : Int) (m : y_m) : y_R sp ph d 16 0 [some (y_bo 6 0 a0), some (y_bi x1)] [] m = y_rV (y_sI (y_sI (y_sI (y_sI (y_sI m a0 2 x1) a0 3 0) a0 4 0) a0 5 0) a0 6 (-1)) := (y_R_eq (md := z_md_16) rfl rfl).trans rfl
set_option maxRecDepth 4000 in
theorem y_C_16 (d : Nat) (a0 : Nat) (x1 : Int) (m : y_m) : y_V sp ph (d + 1) 16 [y_bo 6 0 a0, y_bi x1] m = y_R sp ph d 16 0 [some (y_bo 6 0 a0), some (y_bi x1)] [] m := (y_V_eq (md := z_md_16) rfl rfl rfl).trans rfl
/-! LacedHoles$Tape.failed ()Z -/
set_option maxRecDepth 4000 in
theorem y_E_17_0 (d : Nat) (a0 : Nat) (m : y_m) : y_R sp ph d 17 0 [some (y_bo 6 0 a0)] [] m = if z_w (y_mI m a0 5) = 0 then y_R sp ph d 17 11 [none] [] m else y_R sp ph d 17 12 [none] [y_bi 1] m := (y_R_eq (md := z_md_17) rfl rfl).trans rfl
set_option maxRecDepth 4000 in
theorem y_E_17_11 (d : Nat) (m : y_m) : y_R sp ph d 17 11 [none] [] m = y_R sp ph d 17 12 [none] [y_bi 0] m := (y_R_eq (md := z_md_17) rfl rfl).trans rfl
set_option maxRecDepth 4000 in
theorem y_E_17_12 (d : Nat) (xs0 : Int) (m : y_m) : y_R sp ph d 17 12 [none] [y_bi xs0] m = y_g (xs0 = 0 ∨ xs0 = 1) (y_rI xs0 m) := (y_R_eq (md := z_md_17) rfl rfl).trans rfl
set_option maxRecDepth 4000 in
theorem y_C_17 (d : Nat) (a0 : Nat) (m : y_m) : y_V sp ph (d + 1) 17 [y_bo 6 0 a0] m = y_R sp ph d 17 0 [some (y_bo 6 0 a0)] [] m := (y_V_eq (md := z_md_17) rfl rfl rfl).trans rfl
/-! LacedHoles$Tape.faultKind ()I -/
set_option maxRecDepth 4000 in
theorem y_E_18_0 (d : Nat) (a0 : Nat) (m : y_m) : y_R sp ph d 18 0 [some (y_bo 6 0 a0)] [] m = y_rI (y_mI m a0 5) m := (y_R_eq (md := z_md_18) rfl rfl).trans rfl
set_option maxRecDepth 4000 in
theorem y_C_18 (d : Nat) (a0 : Nat) (m : y_m) : y_V sp ph (d + 1) 18 [y_bo 6 0 a0] m = y_R sp ph d 18 0 [some (y_bo 6 0 a0)] [] m := (y_V_eq (md := z_md_18) rfl rfl rfl).trans rfl
/-! LacedHoles$Tape.faultPlace ()I -/
set_option maxRecDepth 4000 in
theorem y_E_19_0 (d : Nat) (a0 : Nat) (m : y_m) : y_R sp ph d 19 0 [some (y_bo 6 0 a0)] [] m = y_rI (y_mI m a0 6) m := (y_R_eq (md := z_md_19) rfl rfl).trans rfl
set_option maxRecDepth 4000 in
theorem y_C_19 (d : Nat) (a0 : Nat) (m : y_m) : y_V sp ph (d + 1) 19 [y_bo 6 0 a0] m = y_R sp ph d 19 0 [some (y_bo 6 0 a0)] [] m := (y_V_eq (md := z_md_19) rfl rfl rfl).trans rfl
/-! LacedHoles$Tape.fail (II)V -/
set_option maxRecDepth 4000 in
theorem y_E_20_0 (d : Nat) (a0 : Nat) (x1 : Int) (x2 : Int) (m : y_m) : y_R sp ph d 20 0 [some (y_bo 6 0 a0), some (y_bi x1), some (y_bi x2)] [] m = if ¬ z_w (y_mI m a0 5) = 0 then y_R sp ph d 20 17 [none, none, none] [] m else y_R sp ph d 20 17 [none, none, none] [] (y_sI (y_sI m a0 5 x1) a0 6 x2) := (y_R_eq (md := z_md_20) rfl rfl).trans rfl
set_option maxRecDepth 4000 in
theorem y_E_20_17 (d : Nat) (m : y_m) : y_R sp ph d 20 17 [none, none, none] [] m = y_rV m := (y_R_eq (md := z_md_20) rfl rfl).trans rfl
set_option maxRecDepth 4000 in
theorem y_C_20 (d : Nat) (a0 : Nat) (x1 : Int) (x2 : Int) (m : y_m) : y_V sp ph (d + 1) 20 [y_bo 6 0 a0, y_bi x1, y_bi x2] m = y_R sp ph d 20 0 [some (y_bo 6 0 a0), some (y_bi x1), some (y_bi x2)] [] m := (y_V_eq (md := z_md_20) rfl rfl rfl).trans rfl
end YEq0_20
