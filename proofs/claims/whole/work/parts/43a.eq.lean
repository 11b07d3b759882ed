section YEq0_134
variable {sp : Nat → Nat} {ph : Bool}
/-! java/lang/Integer.numberOfTrailingZeros (I)I -/
set_option maxRecDepth 4000 in
theorem y_E_0_0 (d : Nat) (x0 : Int) (m : y_m) : y_R sp ph d 0 0 [some (y_bi x0), none] [] m = if 0 < z_w (z_iand (z_ixor x0 (-1)) (x0 - 1)) then y_R sp ph d 0 17 [some (y_bi (z_iand (z_ixor x0 (-1)) (x0 - 1))), none] [] m else y_rI (z_iand (z_iand (z_ixor x0 (-1)) (x0 - 1)) 32) m := (y_R_eq (md := z_md_0) rfl rfl).trans rfl
set_option maxRecDepth 4000 in
theorem y_E_0_17 (d : Nat) (x0 : Int) (m : y_m) : y_R sp ph d 0 17 [some (y_bi x0), none] [] m = if z_w x0 ≤ 65536 then y_R sp ph d 0 34 [some (y_bi x0), some (y_bi 1)] [] m else y_R sp ph d 0 34 [some (y_bi (z_iushr x0 16)), some (y_bi (1 + 16))] [] m := (y_R_eq (md := z_md_0) rfl rfl).trans rfl
set_option maxRecDepth 4000 in
theorem y_E_0_34 (d : Nat) (x0 : Int) (x1 : Int) (m : y_m) : y_R sp ph d 0 34 [some (y_bi x0), some (y_bi x1)] [] m = if z_w x0 ≤ 256 then y_R sp ph d 0 49 [some (y_bi x0), some (y_bi x1)] [] m else y_R sp ph d 0 49 [some (y_bi (z_iushr x0 8)), some (y_bi (x1 + 8))] [] m := (y_R_eq (md := z_md_0) rfl rfl).trans rfl
set_option maxRecDepth 4000 in
theorem y_E_0_49 (d : Nat) (x0 : Int) (x1 : Int) (m : y_m) : y_R sp ph d 0 49 [some (y_bi x0), some (y_bi x1)] [] m = if z_w x0 ≤ 16 then y_R sp ph d 0 62 [some (y_bi x0), some (y_bi x1)] [] m else y_R sp ph d 0 62 [some (y_bi (z_iushr x0 4)), some (y_bi (x1 + 4))] [] m := (y_R_eq (md := z_md_0) rfl rfl).trans rfl
set_option maxRecDepth 4000 in
theorem y_E_0_62 (d : Nat) (x0 : Int) (x1 : Int) (m : y_m) : y_R sp ph d 0 62 [some (y_bi x0), some (y_bi x1)] [] m = if z_w x0 ≤ 4 then y_R sp ph d 0 74 [some (y_bi x0), some (y_bi x1)] [] m else y_R sp ph d 0 74 [some (y_bi (z_iushr x0 2)), some (y_bi (x1 + 2))] [] m := (y_R_eq (md := z_md_0) rfl rfl).trans rfl
set_option maxRecDepth 4000 in
theorem y_E_0_74 (d : Nat) (x0 : Int) (x1 : Int) (m : y_m) : y_R sp ph d 0 74 [some (y_bi x0), some (y_bi x1)] [] m = y_rI (x1 + (z_iushr x0 1)) m := (y_R_eq (md := z_md_0) rfl rfl).trans rfl
set_option maxRecDepth 4000 in
theorem y_C_0 (d : Nat) (x0 : Int) (m : y_m) : y_V sp ph (d + 1) 0 [y_bi x0] m = y_R sp ph d 0 0 [some (y_bi x0), none] [] m := (y_V_eq (md := z_md_0) rfl rfl rfl).trans rfl
/-! java/lang/Integer.bitCount (I)I -/
set_option maxRecDepth 4000 in
theorem y_E_1_0 (d : Nat) (x0 : Int) (m : y_m) : y_R sp ph d 1 0 [some (y_bi x0)] [] m = y_rI (z_iand (((z_iand (((z_iand (x0 - (z_iand (z_iushr x0 1) 1431655765)) 858993459) + (z_iand (z_iushr (x0 - (z_iand (z_iushr x0 1) 1431655765)) 2) 858993459)) + (z_iushr ((z_iand (x0 - (z_iand (z_iushr x0 1) 1431655765)) 858993459) + (z_iand (z_iushr (x0 - (z_iand (z_iushr x0 1) 1431655765)) 2) 858993459)) 4)) 252645135) + (z_iushr (z_iand (((z_iand (x0 - (z_iand (z_iushr x0 1) 1431655765)) 858993459) + (z_iand (z_iushr (x0 - (z_iand (z_iushr x0 1) 1431655765)) 2) 858993459)) + (z_iushr ((z_iand (x0 - (z_iand (z_iushr x0 1) 1431655765)) 858993459) + (z_iand (z_iushr (x0 - (z_iand (z_iushr x0 1) 1431655765)) 2) 858993459)) 4)) 252645135) 8)) + (z_iushr ((z_iand (((z_iand (x0 - (z_iand (z_iushr x0 1) 1431655765)) 858993459) + (z_iand (z_iushr (x0 - (z_iand (z_iushr x0 1) 1431655765)) 2) 858993459)) + (z_iushr ((z_iand (x0 - (z_iand (z_iushr x0 1) 1431655765)) 858993459) + (z_iand (z_iushr (x0 - (z_iand (z_iushr x0 1) 1431655765)) 2) 858993459)) 4)) 252645135) + (z_iushr (z_iand (((z_iand (x0 - (z_iand (z_iushr x0 1) 1431655765)) 858993459) + (z_iand (z_iushr (x0 - (z_iand (z_iushr x0 1) 1431655765)) 2) 858993459)) + (z_iushr ((z_iand (x0 - (z_iand (z_iushr x0 1) 1431655765)) 858993459) + (z_iand (z_iushr (x0 - (z_iand (z_iushr x0 1) 1431655765)) 2) 858993459)) 4)) 252645135) 8)) 16)) 63) m := (y_R_eq (md := z_md_1) rfl rfl).trans rfl
set_option maxRecDepth 4000 in
theorem y_C_1 (d : Nat) (x0 : Int) (m : y_m) : y_V sp ph (d + 1) 1 [y_bi x0] m = y_R sp ph d 1 0 [some (y_bi x0)] [] m := (y_V_eq (md := z_md_1) rfl rfl rfl).trans rfl
/-! java/lang/Math.floorMod (II)I -/
set_option maxRecDepth 4000 in
theorem y_E_2_0 (d : Nat) (x0 : Int) (x1 : Int) (m : y_m) : y_R sp ph d 2 0 [some (y_bi x0), some (y_bi x1), none] [] m = y_g (z_w x1 ≠ 0) (if 0 ≤ z_w (z_ixor x0 x1) then y_R sp ph d 2 18 [none, none, some (y_bi (z_irem x0 x1))] [] m else if z_w (z_irem x0 x1) = 0 then y_R sp ph d 2 18 [none, none, some (y_bi (z_irem x0 x1))] [] m else y_rI ((z_irem x0 x1) + x1) m) := (y_R_eq (md := z_md_2) rfl rfl).trans rfl
set_option maxRecDepth 4000 in
theorem y_E_2_18 (d : Nat) (x2 : Int) (m : y_m) : y_R sp ph d 2 18 [none, none, some (y_bi x2)] [] m = y_rI x2 m := (y_R_eq (md := z_md_2) rfl rfl).trans rfl
set_option maxRecDepth 4000 in
theorem y_C_2 (d : Nat) (x0 : Int) (x1 : Int) (m : y_m) : y_V sp ph (d + 1) 2 [y_bi x0, y_bi x1] m = y_R sp ph d 2 0 [some (y_bi x0), some (y_bi x1), none] [] m := (y_V_eq (md := z_md_2) rfl rfl rfl).trans rfl
/-! java/lang/Math.abs (I)I -/
set_option maxRecDepth 4000 in
theorem y_E_3_0 (d : Nat) (x0 : Int) (m : y_m) : y_R sp ph d 3 0 [some (y_bi x0)] [] m = if 0 ≤ z_w x0 then y_R sp ph d 3 9 [some (y_bi x0)] [] m else y_R sp ph d 3 10 [none] [y_bi (-x0)] m := (y_R_eq (md := z_md_3) rfl rfl).trans rfl
set_option maxRecDepth 4000 in
theorem y_E_3_9 (d : Nat) (x0 : Int) (m : y_m) : y_R sp ph d 3 9 [some (y_bi x0)] [] m = y_R sp ph d 3 10 [none] [y_bi x0] m := (y_R_eq (md := z_md_3) rfl rfl).trans rfl
set_option maxRecDepth 4000 in
theorem y_E_3_10 (d : Nat) (xs0 : Int) (m : y_m) : y_R sp ph d 3 10 [none] [y_bi xs0] m = y_rI xs0 m := (y_R_eq (md := z_md_3) rfl rfl).trans rfl
set_option maxRecDepth 4000 in
theorem y_C_3 (d : Nat) (x0 : Int) (m : y_m) : y_V sp ph (d + 1) 3 [y_bi x0] m = y_R sp ph d 3 0 [some (y_bi x0)] [] m := (y_V_eq (md := z_md_3) rfl rfl rfl).trans rfl
/-! java/lang/Math.max (II)I -/
set_option maxRecDepth 4000 in
theorem y_E_4_0 (d : Nat) (x0 : Int) (x1 : Int) (m : y_m) : y_R sp ph d 4 0 [some (y_bi x0), some (y_bi x1)] [] m = if z_w x0 < z_w x1 then y_R sp ph d 4 9 [none, some (y_bi x1)] [] m else y_R sp ph d 4 10 [none, none] [y_bi x0] m := (y_R_eq (md := z_md_4) rfl rfl).trans rfl
set_option maxRecDepth 4000 in
theorem y_E_4_9 (d : Nat) (x1 : Int) (m : y_m) : y_R sp ph d 4 9 [none, some (y_bi x1)] [] m = y_R sp ph d 4 10 [none, none] [y_bi x1] m := (y_R_eq (md := z_md_4) rfl rfl).trans rfl
set_option maxRecDepth 4000 in
theorem y_E_4_10 (d : Nat) (xs0 : Int) (m : y_m) : y_R sp ph d 4 10 [none, none] [y_bi xs0] m = y_rI xs0 m := (y_R_eq (md := z_md_4) rfl rfl).trans rfl
set_option maxRecDepth 4000 in
theorem y_C_4 (d : Nat) (x0 : Int) (x1 : Int) (m : y_m) : y_V sp ph (d + 1) 4 [y_bi x0, y_bi x1] m = y_R sp ph d 4 0 [some (y_bi x0), some (y_bi x1)] [] m := (y_V_eq (md := z_md_4) rfl rfl rfl).trans rfl
/-! java/lang/Math.min (II)I -/
set_option maxRecDepth 4000 in
theorem y_E_5_0 (d : Nat) (x0 : Int) (x1 : Int) (m : y_m) : y_R sp ph d 5 0 [some (y_bi x0), some (y_bi x1)] [] m = if z_w x1 < z_w x0 then y_R sp ph d 5 9 [none, some (y_bi x1)] [] m else y_R sp ph d 5 10 [none, none] [y_bi x0] m := (y_R_eq (md := z_md_5) rfl rfl).trans rfl
set_option maxRecDepth 4000 in
theorem y_E_5_9 (d : Nat) (x1 : Int) (m : y_m) : y_R sp ph d 5 9 [none, some (y_bi x1)] [] m = y_R sp ph d 5 10 [none, none] [y_bi x1] m := (y_R_eq (md := z_md_5) rfl rfl).trans rfl
set_option maxRecDepth 4000 in
theorem y_E_5_10 (d : Nat) (xs0 : Int) (m : y_m) : y_R sp ph d 5 10 [none, none] [y_bi xs0] m = y_rI xs0 m := (y_R_eq (md := z_md_5) rfl rfl).trans rfl
set_option maxRecDepth 4000 in
theorem y_C_5 (d : Nat) (x0 : Int) (x1 : Int) (m : y_m) : y_V sp ph (d + 1) 5 [y_bi x0, y_bi x1] m = y_R sp ph d 5 0 [some (y_bi x0), some (y_bi x1)] [] m := (y_V_eq (md := z_md_5) rfl rfl rfl).trans rfl
/-! java/lang/Math.min (JJ)J -/
set_option maxRecDepth 4000 in
theorem y_E_6_0 (d : Nat) (x0 : Int) (x2 : Int) (m : y_m) : y_R sp ph d 6 0 [some (y_bl x0), none, some (y_bl x2), none] [] m = if 0 < z_w (z_lcmp x0 x2) then y_R sp ph d 6 10 [none, none, some (y_bl x2), none] [] m else y_R sp ph d 6 11 [none, none, none, none] [y_bl x0] m := (y_R_eq (md := z_md_6) rfl rfl).trans rfl
set_option maxRecDepth 4000 in
theorem y_E_6_10 (d : Nat) (x2 : Int) (m : y_m) : y_R sp ph d 6 10 [none, none, some (y_bl x2), none] [] m = y_R sp ph d 6 11 [none, none, none, none] [y_bl x2] m := (y_R_eq (md := z_md_6) rfl rfl).trans rfl
set_option maxRecDepth 4000 in
theorem y_E_6_11 (d : Nat) (xs0 : Int) (m : y_m) : y_R sp ph d 6 11 [none, none, none, none] [y_bl xs0] m = y_rL xs0 m := (y_R_eq (md := z_md_6) rfl rfl).trans rfl
set_option maxRecDepth 4000 in
theorem y_C_6 (d : Nat) (x0 : Int) (x2 : Int) (m : y_m) : y_V sp ph (d + 1) 6 [y_bl x0, y_bl x2] m = y_R sp ph d 6 0 [some (y_bl x0), none, some (y_bl x2), none] [] m := (y_V_eq (md := z_md_6) rfl rfl rfl).trans rfl
/-! LacedHoles$Rows.get ([II)I -/
set_option maxRecDepth 4000 in
theorem y_E_7_0 (d : Nat) (a0 : Nat) (n0 : Nat) (x1 : Int) (m : y_m) : y_R sp ph d 7 0 [some (y_bo 100 n0 a0), some (y_bi x1)] [] m = if z_w x1 < 0 then y_R sp ph d 7 16 [none, none] [] m else if z_w (n0 : Int) ≤ z_w x1 then y_R sp ph d 7 16 [none, none] [] m else y_g (0 ≤ x1 ∧ x1 < (n0 : Int)) (y_R sp ph d 7 17 [none, none] [y_bi (y_mI m a0 x1.toNat)] m) := (y_R_eq (md := z_md_7) rfl rfl).trans rfl
set_option maxRecDepth 4000 in
theorem y_E_7_16 (d : Nat) (m : y_m) : y_R sp ph d 7 16 [none, none] [] m = y_R sp ph d 7 17 [none, none] [y_bi 0] m := (y_R_eq (md := z_md_7) rfl rfl).trans rfl
set_option maxRecDepth 4000 in
theorem y_E_7_17 (d : Nat) (xs0 : Int) (m : y_m) : y_R sp ph d 7 17 [none, none] [y_bi xs0] m = y_rI xs0 m := (y_R_eq (md := z_md_7) rfl rfl).trans rfl
set_option maxRecDepth 4000 in
theorem y_C_7 (d : Nat) (a0 : Nat) (n0 : Nat) (x1 : Int) (m : y_m) : y_V sp ph (d + 1) 7 [y_bo 100 n0 a0, y_bi x1] m = y_R sp ph d 7 0 [some (y_bo 100 n0 a0), some (y_bi x1)] [] m := (y_V_eq (md := z_md_7) rfl rfl rfl).trans rfl
/-! LacedHoles$Rows.set ([III)V -/
set_option maxRecDepth 4000 in
theorem y_E_8_0 (d : Nat) (a0 : Nat) (n0 : Nat) (x1 : Int) (x2 : Int) (m : y_m) : y_R sp ph d 8 0 [some (y_bo 100 n0 a0), some (y_bi x1), some (y_bi x2)] [] m = if z_w x1 < 0 then y_R sp ph d 8 14 [none, none, none] [] m else if z_w (n0 : Int) ≤ z_w x1 then y_R sp ph d 8 14 [none, none, none] [] m else y_g (0 ≤ x1 ∧ x1 < (n0 : Int)) (y_R sp ph d 8 14 [none, none, none] [] (y_sI m a0 x1.toNat x2)) := (y_R_eq (md := z_md_8) rfl rfl).trans rfl
set_option maxRecDepth 4000 in
theorem y_E_8_14 (d : Nat) (m : y_m) : y_R sp ph d 8 14 [none, none, none] [] m = y_rV m := (y_R_eq (md := z_md_8) rfl rfl).trans rfl
set_option maxRecDepth 4000 in
theorem y_C_8 (d : Nat) (a0 : Nat) (n0 : Nat) (x1 : Int) (x2 : Int) (m : y_m) : y_V sp ph (d + 1) 8 [y_bo 100 n0 a0, y_bi x1, y_bi x2] m = y_R sp ph d 8 0 [some (y_bo 100 n0 a0), some (y_bi x1), some (y_bi x2)] [] m := (y_V_eq (md := z_md_8) rfl rfl rfl).trans rfl
/-! LacedHoles$Rows.get ([JI)J -/
set_option maxRecDepth 4000 in
theorem y_E_9_0 (d : Nat) (a0 : Nat) (n0 : Nat) (x1 : Int) (m : y_m) : y_R sp ph d 9 0 [some (y_bo 101 n0 a0), some (y_bi x1)] [] m = if z_w x1 < 0 then y_R sp ph d 9 16 [none, none] [] m else if z_w (n0 : Int) ≤ z_w x1 then y_R sp ph d 9 16 [none, none] [] m else y_g (0 ≤ x1 ∧ x1 < (n0 : Int)) (y_R sp ph d 9 17 [none, none] [y_bl (y_mJ m a0 x1.toNat)] m) := (y_R_eq (md := z_md_9) rfl rfl).trans rfl
set_option maxRecDepth 4000 in
theorem y_E_9_16 (d : Nat) (m : y_m) : y_R sp ph d 9 16 [none, none] [] m = y_R sp ph d 9 17 [none, none] [y_bl 0] m := (y_R_eq (md := z_md_9) rfl rfl).trans rfl
set_option maxRecDepth 4000 in
theorem y_E_9_17 (d : Nat) (xs0 : Int) (m : y_m) : y_R sp ph d 9 17 [none, none] [y_bl xs0] m = y_rL xs0 m := (y_R_eq (md := z_md_9) rfl rfl).trans rfl
set_option maxRecDepth 4000 in
theorem y_C_9 (d : Nat) (a0 : Nat) (n0 : Nat) (x1 : Int) (m : y_m) : y_V sp ph (d + 1) 9 [y_bo 101 n0 a0, y_bi x1] m = y_R sp ph d 9 0 [some (y_bo 101 n0 a0), some (y_bi x1)] [] m := (y_V_eq (md := z_md_9) rfl rfl rfl).trans rfl
/-! LacedHoles$Rows.set ([JIJ)V -/
set_option maxRecDepth 4000 in
theorem y_E_10_0 (d : Nat) (a0 : Nat) (n0 : Nat) (x1 : Int) (x2 : Int) (m : y_m) : y_R sp ph d 10 0 [some (y_bo 101 n0 a0), some (y_bi x1), some (y_bl x2), none] [] m = if z_w x1 < 0 then y_R sp ph d 10 14 [none, none, none, none] [] m else if z_w (n0 : Int) ≤ z_w x1 then y_R sp ph d 10 14 [none, none, none, none] [] m else y_g (0 ≤ x1 ∧ x1 < (n0 : Int)) (y_R sp ph d 10 14 [none, none, none, none] [] (y_sJ m a0 x1.toNat x2)) := (y_R_eq (md := z_md_10) rfl rfl).trans rfl
set_option maxRecDepth 4000 in
theorem y_E_10_14 (d : Nat) (m : y_m) : y_R sp ph d 10 14 [none, none, none, none] [] m = y_rV m := (y_R_eq (md := z_md_10) rfl rfl).trans rfl
set_option maxRecDepth 4000 in
theorem y_C_10 (d : Nat) (a0 : Nat) (n0 : Nat) (x1 : Int) (x2 : Int) (m : y_m) : y_V sp ph (d + 1) 10 [y_bo 101 n0 a0, y_bi x1, y_bl x2] m = y_R sp ph d 10 0 [some (y_bo 101 n0 a0), some (y_bi x1), some (y_bl x2), none] [] m := (y_V_eq (md := z_md_10) rfl rfl rfl).trans rfl
/-! LacedHoles$Tape.hasRoom ()Z -/
set_option maxRecDepth 4000 in
theorem y_E_12_0 (d : Nat) (a0 : Nat) (m : y_m) : y_R sp ph d 12 0 [some (y_bo 6 0 a0)] [] m = if 400 < z_w ((y_mI m a0 1) + 20) then y_R sp ph d 12 17 [none] [] m else y_R sp ph d 12 18 [none] [y_bi 1] m := (y_R_eq (md := z_md_12) rfl rfl).trans rfl
set_option maxRecDepth 4000 in
theorem y_E_12_17 (d : Nat) (m : y_m) : y_R sp ph d 12 17 [none] [] m = y_R sp ph d 12 18 [none] [y_bi 0] m := (y_R_eq (md := z_md_12) rfl rfl).trans rfl
set_option maxRecDepth 4000 in
theorem y_E_12_18 (d : Nat) (xs0 : Int) (m : y_m) : y_R sp ph d 12 18 [none] [y_bi xs0] m = y_g (xs0 = 0 ∨ xs0 = 1) (y_rI xs0 m) := (y_R_eq (md := z_md_12) rfl rfl).trans rfl
set_option maxRecDepth 4000 in
theorem y_C_12 (d : Nat) (a0 : Nat) (m : y_m) : y_V sp ph (d + 1) 12 [y_bo 6 0 a0] m = y_R sp ph d 12 0 [some (y_bo 6 0 a0)] [] m := (y_V_eq (md := z_md_12) rfl rfl rfl).trans rfl
/-! LacedHoles$Tape.put (I)V -/
set_option maxRecDepth 4000 in
theorem y_E_13_0 (d : Nat) (a0 : Nat) (x1 : Int) (m : y_m) : y_R sp ph d 13 0 [some (y_bo 6 0 a0), some (y_bi x1), none] [] m = y_R sp ph d 13 3 [some (y_bo 6 0 a0), some (y_bi x1), some (y_bi 24)] [] m := (y_R_eq (md := z_md_13) rfl rfl).trans rfl
set_option maxRecDepth 4000 in
theorem y_E_13_3 (d : Nat) (a0 : Nat) (x1 : Int) (x2 : Int) (m : y_m) : y_R sp ph d 13 3 [some (y_bo 6 0 a0), some (y_bi x1), some (y_bi x2)] [] m = if z_w x2 < 0 then y_R sp ph d 13 41 [none, none, none] [] m else y_bV (y_V sp ph d 8 [y_bo 100 400 2, y_bi (y_mI m a0 1), y_bi (z_iand (z_iushr x1 x2) 255)] m) (fun m1 => y_R sp ph d 13 3 [some (y_bo 6 0 a0), some (y_bi x1), some (y_bi (x2 + (-8)))] [] (y_sI m1 a0 1 ((y_mI m1 a0 1) + 1))) (fun e m1 => y_px e m1) := by
  rw [y_R_eq (md := z_md_13) rfl rfl]
  exact (y_ic rfl (y_bVc fun m1 => (y_sh (L' := [some (y_bo 6 0 a0), some (y_bi x1), some (y_bi x2)]) (S' := []) rfl rfl rfl)))
set_option maxRecDepth 4000 in
theorem y_E_13_41 (d : Nat) (m : y_m) : y_R sp ph d 13 41 [none, none, none] [] m = y_rV m := (y_R_eq (md := z_md_13) rfl rfl).trans rfl
set_option maxRecDepth 4000 in
theorem y_C_13 (d : Nat) (a0 : Nat) (x1 : Int) (m : y_m) : y_V sp ph (d + 1) 13 [y_bo 6 0 a0, y_bi x1] m = y_R sp ph d 13 0 [some (y_bo 6 0 a0), some (y_bi x1), none] [] m := (y_V_eq (md := z_md_13) rfl rfl rfl).trans rfl
/-! LacedHoles$Tape.size ()I -/
set_option maxRecDepth 4000 in
theorem y_E_14_0 (d : Nat) (a0 : Nat) (m : y_m) : y_R sp ph d 14 0 [some (y_bo 6 0 a0)] [] m = y_rI (y_mI m a0 1) m := (y_R_eq (md := z_md_14) rfl rfl).trans rfl
set_option maxRecDepth 4000 in
theorem y_C_14 (d : Nat) (a0 : Nat) (m : y_m) : y_V sp ph (d + 1) 14 [y_bo 6 0 a0] m = y_R sp ph d 14 0 [some (y_bo 6 0 a0)] [] m := (y_V_eq (md := z_md_14) rfl rfl rfl).trans rfl
/-! LacedHoles$Tape.empty ()V -/
set_option maxRecDepth 4000 in
theorem y_E_15_0 (d : Nat) (a0 : Nat) (m : y_m) : y_R sp ph d 15 0 [some (y_bo 6 0 a0)] [] m = y_rV (y_sI m a0 1 0) := (y_R_eq (md := z_md_15) rfl rfl).trans rfl
set_option maxRecDepth 4000 in
theorem y_C_15 (d : Nat) (a0 : Nat) (m : y_m) : y_V sp ph (d + 1) 15 [y_bo 6 0 a0] m = y_R sp ph d 15 0 [some (y_bo 6 0 a0)] [] m := (y_V_eq (md := z_md_15) rfl rfl rfl).trans rfl
/-! LacedHoles$Tape.open (I)V -/
set_option maxRecDepth 4000 in
theorem y_E_16_0 (d : Nat) (a0 : Nat) (x1 : Int) (m : y_m) : y_R sp ph d 16 0 [some (y_bo 6 0 a0), some (y_bi x1)] [] m = y_rV (y_sI (y_sI (y_sI (y_sI (y_sI m a0 2 x1) a0 3 0) a0 4 0) a0 5 0) a0 6 (-1)) := (y_R_eq (md := z_md_16) rfl rfl).trans rfl
set_option maxRecDepth 4000 in
theorem y_C_16 (d : Nat) (a0 : Nat) (x1 : Int) (m : y_m) : y_V sp ph (d + 1) 16 [y_bo 6 0 a0, y_bi x1] m = y_R sp ph d 16 0 [some (y_bo 6 0 a0), some (y_bi x1)] [] m := (y_V_eq (md := z_md_16) rfl rfl rfl).trans rfl
/-! LacedHoles$Tape.failed ()Z -/
set_option maxRecDepth 4000 in
theorem y_E_17_0 (d : Nat) (a0 : Nat) (m : y_m) : y_R sp ph d 17 0 [some (y_bo 6 0 a0)] [] m = if z_w (y_mI m a0 5) = 0 then y_R sp ph d 17 11 [none] [] m else y_R sp ph d 17 12 [none] [y_bi 1] m := (y_R_eq (md := z_md_17) rfl rfl).trans rfl
set_option maxRecDepth 4000 in
theorem y_E_17_11 (d : Nat) (m : y_m) : y_R sp ph d 17 11 [none] [] m = y_R sp ph d 17 12 [none] [y_bi 0] m := (y_R_eq (md := z_md_17) rfl rfl).trans rfl
set_option maxRecDepth 4000 in
theorem y_E_17_12 (d : Nat) (xs0 : Int) (m : y_m) : y_R sp ph d 17 12 [none] [y_bi xs0] m = y_g (xs0 = 0 ∨ xs0 = 1) (y_rI xs0 m) := (y_R_eq (md := z_md_17) rfl rfl).trans rfl
set_option maxRecDepth 4000 in
theorem y_C_17 (d : Nat) (a0 : Nat) (m : y_m) : y_V sp ph (d + 1) 17 [y_bo 6 0 a0] m = y_R sp ph d 17 0 [some (y_bo 6 0 a0)] [] m := (y_V_eq (md := z_md_17) rfl rfl rfl).trans rfl
/-! LacedHoles$Tape.faultKind ()I -/
set_option maxRecDepth 4000 in
theorem y_E_18_0 (d : Nat) (a0 : Nat) (m : y_m) : y_R sp ph d 18 0 [some (y_bo 6 0 a0)] [] m = y_rI (y_mI m a0 5) m := (y_R_eq (md := z_md_18) rfl rfl).trans rfl
set_option maxRecDepth 4000 in
theorem y_C_18 (d : Nat) (a0 : Nat) (m : y_m) : y_V sp ph (d + 1) 18 [y_bo 6 0 a0] m = y_R sp ph d 18 0 [some (y_bo 6 0 a0)] [] m := (y_V_eq (md := z_md_18) rfl rfl rfl).trans rfl
/-! LacedHoles$Tape.faultPlace ()I -/
set_option maxRecDepth 4000 in
theorem y_E_19_0 (d : Nat) (a0 : Nat) (m : y_m) : y_R sp ph d 19 0 [some (y_bo 6 0 a0)] [] m = y_rI (y_mI m a0 6) m := (y_R_eq (md := z_md_19) rfl rfl).trans rfl
set_option maxRecDepth 4000 in
theorem y_C_19 (d : Nat) (a0 : Nat) (m : y_m) : y_V sp ph (d + 1) 19 [y_bo 6 0 a0] m = y_R sp ph d 19 0 [some (y_bo 6 0 a0)] [] m := (y_V_eq (md := z_md_19) rfl rfl rfl).trans rfl
/-! LacedHoles$Tape.fail (II)V -/
set_option maxRecDepth 4000 in
theorem y_E_20_0 (d : Nat) (a0 : Nat) (x1 : Int) (x2 : Int) (m : y_m) : y_R sp ph d 20 0 [some (y_bo 6 0 a0), some (y_bi x1), some (y_bi x2)] [] m = if ¬ z_w (y_mI m a0 5) = 0 then y_R sp ph d 20 17 [none, none, none] [] m else y_R sp ph d 20 17 [none, none, none] [] (y_sI (y_sI m a0 5 x1) a0 6 x2) := (y_R_eq (md := z_md_20) rfl rfl).trans rfl
set_option maxRecDepth 4000 in
theorem y_E_20_17 (d : Nat) (m : y_m) : y_R sp ph d 20 17 [none, none, none] [] m = y_rV m := (y_R_eq (md := z_md_20) rfl rfl).trans rfl
set_option maxRecDepth 4000 in
theorem y_C_20 (d : Nat) (a0 : Nat) (x1 : Int) (x2 : Int) (m : y_m) : y_V sp ph (d + 1) 20 [y_bo 6 0 a0, y_bi x1, y_bi x2] m = y_R sp ph d 20 0 [some (y_bo 6 0 a0), some (y_bi x1), some (y_bi x2)] [] m := (y_V_eq (md := z_md_20) rfl rfl rfl).trans rfl
/-! LacedHoles$Tape.failAtToken (I)V -/
set_option maxRecDepth 4000 in
theorem y_E_21_0 (d : Nat) (a0 : Nat) (x1 : Int) (m : y_m) : y_R sp ph d 21 0 [some (y_bo 6 0 a0), some (y_bi x1)] [] m = y_bV (y_V sp ph d 20 [y_bo 6 0 a0, y_bi x1, y_bi (y_mI m a0 4)] m) (fun m1 => y_rV m1) (fun e m1 => y_px e m1) := by
  rw [y_R_eq (md := z_md_21) rfl rfl]
  exact (y_bVc fun m1 => (y_sh (L' := [some (y_bo 6 0 a0), some (y_bi x1)]) (S' := []) rfl rfl rfl))
set_option maxRecDepth 4000 in
theorem y_C_21 (d : Nat) (a0 : Nat) (x1 : Int) (m : y_m) : y_V sp ph (d + 1) 21 [y_bo 6 0 a0, y_bi x1] m = y_R sp ph d 21 0 [some (y_bo 6 0 a0), some (y_bi x1)] [] m := (y_V_eq (md := z_md_21) rfl rfl rfl).trans rfl
/-! LacedHoles$Tape.failAtEnd (I)V -/
set_option maxRecDepth 4000 in
theorem y_E_22_0 (d : Nat) (a0 : Nat) (x1 : Int) (m : y_m) : y_R sp ph d 22 0 [some (y_bo 6 0 a0), some (y_bi x1)] [] m = y_bV (y_V sp ph d 20 [y_bo 6 0 a0, y_bi x1, y_bi (y_mI m a0 2)] m) (fun m1 => y_rV m1) (fun e m1 => y_px e m1) := by
  rw [y_R_eq (md := z_md_22) rfl rfl]
  exact (y_bVc fun m1 => (y_sh (L' := [some (y_bo 6 0 a0), some (y_bi x1)]) (S' := []) rfl rfl rfl))
set_option maxRecDepth 4000 in
theorem y_C_22 (d : Nat) (a0 : Nat) (x1 : Int) (m : y_m) : y_V sp ph (d + 1) 22 [y_bo 6 0 a0, y_bi x1] m = y_R sp ph d 22 0 [some (y_bo 6 0 a0), some (y_bi x1)] [] m := (y_V_eq (md := z_md_22) rfl rfl rfl).trans rfl
/-! LacedHoles$Tape.ended ()Z -/
set_option maxRecDepth 4000 in
theorem y_E_23_0 (d : Nat) (a0 : Nat) (m : y_m) : y_R sp ph d 23 0 [some (y_bo 6 0 a0)] [] m = y_bV (y_V sp ph d 25 [y_bo 6 0 a0] m) (fun m1 => if z_w (y_mI m1 a0 3) < z_w (y_mI m1 a0 2) then y_R sp ph d 23 19 [none] [] m1 else y_R sp ph d 23 20 [none] [y_bi 1] m1) (fun e m1 => y_px e m1) := by
  rw [y_R_eq (md := z_md_23) rfl rfl]
  exact (y_bVc fun m1 => (y_sh (L' := [some (y_bo 6 0 a0)]) (S' := []) rfl rfl rfl))
set_option maxRecDepth 4000 in
theorem y_E_23_19 (d : Nat) (m : y_m) : y_R sp ph d 23 19 [none] [] m = y_R sp ph d 23 20 [none] [y_bi 0] m := (y_R_eq (md := z_md_23) rfl rfl).trans rfl
set_option maxRecDepth 4000 in
theorem y_E_23_20 (d : Nat) (xs0 : Int) (m : y_m) : y_R sp ph d 23 20 [none] [y_bi xs0] m = y_g (xs0 = 0 ∨ xs0 = 1) (y_rI xs0 m) := (y_R_eq (md := z_md_23) rfl rfl).trans rfl
set_option maxRecDepth 4000 in
theorem y_C_23 (d : Nat) (a0 : Nat) (m : y_m) : y_V sp ph (d + 1) 23 [y_bo 6 0 a0] m = y_R sp ph d 23 0 [some (y_bo 6 0 a0)] [] m := (y_V_eq (md := z_md_23) rfl rfl rfl).trans rfl
/-! LacedHoles$Tape.here ()I -/
set_option maxRecDepth 4000 in
theorem y_E_24_0 (d : Nat) (a0 : Nat) (m : y_m) : y_R sp ph d 24 0 [some (y_bo 6 0 a0)] [] m = if z_w (y_mI m a0 2) ≤ z_w (y_mI m a0 3) then y_R sp ph d 24 25 [none] [] m else y_bI (y_V sp ph d 7 [y_bo 100 400 2, y_bi (y_mI m a0 3)] m) (fun v1 m1 => y_R sp ph d 24 26 [none] [y_bi v1] m1) (fun e m1 => y_px e m1) := by
  rw [y_R_eq (md := z_md_24) rfl rfl]
  exact (y_ic rfl (y_bIc fun v1 m1 => (y_sh (L' := [some (y_bo 6 0 a0)]) (S' := [y_bi v1]) rfl rfl rfl)))
set_option maxRecDepth 4000 in
theorem y_E_24_25 (d : Nat) (m : y_m) : y_R sp ph d 24 25 [none] [] m = y_R sp ph d 24 26 [none] [y_bi (-1)] m := (y_R_eq (md := z_md_24) rfl rfl).trans rfl
set_option maxRecDepth 4000 in
theorem y_E_24_26 (d : Nat) (xs0 : Int) (m : y_m) : y_R sp ph d 24 26 [none] [y_bi xs0] m = y_rI xs0 m := (y_R_eq (md := z_md_24) rfl rfl).trans rfl
set_option maxRecDepth 4000 in
theorem y_C_24 (d : Nat) (a0 : Nat) (m : y_m) : y_V sp ph (d + 1) 24 [y_bo 6 0 a0] m = y_R sp ph d 24 0 [some (y_bo 6 0 a0)] [] m := (y_V_eq (md := z_md_24) rfl rfl rfl).trans rfl
/-! LacedHoles$Tape.skipBlanks ()V -/
set_option maxRecDepth 4000 in
theorem y_E_25_0 (d : Nat) (a0 : Nat) (m : y_m) : y_R sp ph d 25 0 [some (y_bo 6 0 a0)] [] m = if z_w (y_mI m a0 2) ≤ z_w (y_mI m a0 3) then y_R sp ph d 25 40 [some (y_bo 6 0 a0)] [] m else y_bI (y_V sp ph d 7 [y_bo 100 400 2, y_bi (y_mI m a0 3)] m) (fun v1 m1 => if ¬ z_w v1 = 32 then y_R sp ph d 25 40 [some (y_bo 6 0 a0)] [] m1 else y_R sp ph d 25 0 [some (y_bo 6 0 a0)] [] (y_sI m1 a0 3 ((y_mI m1 a0 3) + 1))) (fun e m1 => y_px e m1) := by
  rw [y_R_eq (md := z_md_25) rfl rfl]
  exact (y_ic rfl (y_bIc fun v1 m1 => (y_sh (L' := [some (y_bo 6 0 a0)]) (S' := [y_bi v1]) rfl rfl rfl)))
set_option maxRecDepth 4000 in
theorem y_E_25_40 (d : Nat) (a0 : Nat) (m : y_m) : y_R sp ph d 25 40 [some (y_bo 6 0 a0)] [] m = y_rV (y_sI m a0 4 (y_mI m a0 3)) := (y_R_eq (md := z_md_25) rfl rfl).trans rfl
set_option maxRecDepth 4000 in
theorem y_C_25 (d : Nat) (a0 : Nat) (m : y_m) : y_V sp ph (d + 1) 25 [y_bo 6 0 a0] m = y_R sp ph d 25 0 [some (y_bo 6 0 a0)] [] m := (y_V_eq (md := z_md_25) rfl rfl rfl).trans rfl
/-! LacedHoles$Tape.isDigit (I)Z -/
set_option maxRecDepth 4000 in
theorem y_E_26_0 (d : Nat) (x0 : Int) (m : y_m) : y_R sp ph d 26 0 [some (y_bi x0)] [] m = if z_w x0 < 48 then y_R sp ph d 26 16 [none] [] m else if 57 < z_w x0 then y_R sp ph d 26 16 [none] [] m else y_R sp ph d 26 17 [none] [y_bi 1] m := (y_R_eq (md := z_md_26) rfl rfl).trans rfl
set_option maxRecDepth 4000 in
theorem y_E_26_16 (d : Nat) (m : y_m) : y_R sp ph d 26 16 [none] [] m = y_R sp ph d 26 17 [none] [y_bi 0] m := (y_R_eq (md := z_md_26) rfl rfl).trans rfl
set_option maxRecDepth 4000 in
theorem y_E_26_17 (d : Nat) (xs0 : Int) (m : y_m) : y_R sp ph d 26 17 [none] [y_bi xs0] m = y_g (xs0 = 0 ∨ xs0 = 1) (y_rI xs0 m) := (y_R_eq (md := z_md_26) rfl rfl).trans rfl
set_option maxRecDepth 4000 in
theorem y_C_26 (d : Nat) (x0 : Int) (m : y_m) : y_V sp ph (d + 1) 26 [y_bi x0] m = y_R sp ph d 26 0 [some (y_bi x0)] [] m := (y_V_eq (md := z_md_26) rfl rfl rfl).trans rfl
/-! LacedHoles$Tape.isLetter (I)Z -/
set_option maxRecDepth 4000 in
theorem y_E_27_0 (d : Nat) (x0 : Int) (m : y_m) : y_R sp ph d 27 0 [some (y_bi x0)] [] m = if z_w x0 < 97 then y_R sp ph d 27 16 [none] [] m else if 122 < z_w x0 then y_R sp ph d 27 16 [none] [] m else y_R sp ph d 27 17 [none] [y_bi 1] m := (y_R_eq (md := z_md_27) rfl rfl).trans rfl
set_option maxRecDepth 4000 in
theorem y_E_27_16 (d : Nat) (m : y_m) : y_R sp ph d 27 16 [none] [] m = y_R sp ph d 27 17 [none] [y_bi 0] m := (y_R_eq (md := z_md_27) rfl rfl).trans rfl
set_option maxRecDepth 4000 in
theorem y_E_27_17 (d : Nat) (xs0 : Int) (m : y_m) : y_R sp ph d 27 17 [none] [y_bi xs0] m = y_g (xs0 = 0 ∨ xs0 = 1) (y_rI xs0 m) := (y_R_eq (md := z_md_27) rfl rfl).trans rfl
set_option maxRecDepth 4000 in
theorem y_C_27 (d : Nat) (x0 : Int) (m : y_m) : y_V sp ph (d + 1) 27 [y_bi x0] m = y_R sp ph d 27 0 [some (y_bi x0)] [] m := (y_V_eq (md := z_md_27) rfl rfl rfl).trans rfl
/-! LacedHoles$Tape.readNumber (II)I -/
set_option maxRecDepth 4000 in
theorem y_E_28_0 (d : Nat) (a0 : Nat) (x1 : Int) (x2 : Int) (m : y_m) : y_R sp ph d 28 0 [some (y_bo 6 0 a0), some (y_bi x1), some (y_bi x2), none] [] m = y_bV (y_V sp ph d 25 [y_bo 6 0 a0] m) (fun m1 => y_bI (y_V sp ph d 24 [y_bo 6 0 a0] m1) (fun v2 m2 => y_bI (y_V sp ph d 26 [y_bi v2] m2) (fun v3 m3 => if ¬ z_w v3 = 0 then y_R sp ph d 28 21 [some (y_bo 6 0 a0), some (y_bi x1), some (y_bi x2), none] [] m3 else y_bV (y_V sp ph d 21 [y_bo 6 0 a0, y_bi 1] m3) (fun m4 => y_rI x1 m4) (fun e m1 => y_px e m1)) (fun e m1 => y_px e m1)) (fun e m1 => y_px e m1)) (fun e m1 => y_px e m1) := by
  rw [y_R_eq (md := z_md_28) rfl rfl]
  exact (y_bVc fun m1 => (y_sh (L' := [some (y_bo 6 0 a0), some (y_bi x1), some (y_bi x2), none]) (S' := []) rfl rfl (y_bIc fun v2 m2 => (y_sh (L' := [some (y_bo 6 0 a0), some (y_bi x1), some (y_bi x2), none]) (S' := [y_bi v2]) rfl rfl (y_bIc fun v3 m3 => (y_sh (L' := [some (y_bo 6 0 a0), some (y_bi x1), some (y_bi x2), none]) (S' := [y_bi v3]) rfl rfl (y_ic rfl (y_bVc fun m4 => (y_sh (L' := [some (y_bo 6 0 a0), some (y_bi x1), some (y_bi x2), none]) (S' := []) rfl rfl rfl)))))))))
set_option maxRecDepth 4000 in
theorem y_E_28_21 (d : Nat) (a0 : Nat) (x1 : Int) (x2 : Int) (m : y_m) : y_R sp ph d 28 21 [some (y_bo 6 0 a0), some (y_bi x1), some (y_bi x2), none] [] m = y_R sp ph d 28 23 [some (y_bo 6 0 a0), some (y_bi x1), some (y_bi x2), some (y_bi 0)] [] m := (y_R_eq (md := z_md_28) rfl rfl).trans rfl
set_option maxRecDepth 4000 in
theorem y_E_28_23 (d : Nat) (a0 : Nat) (x1 : Int) (x2 : Int) (x3 : Int) (m : y_m) : y_R sp ph d 28 23 [some (y_bo 6 0 a0), some (y_bi x1), some (y_bi x2), some (y_bi x3)] [] m = if z_w (y_mI m a0 2) ≤ z_w (y_mI m a0 3) then y_R sp ph d 28 75 [some (y_bo 6 0 a0), some (y_bi x1), some (y_bi x2), some (y_bi x3)] [] m else y_bI (y_V sp ph d 24 [y_bo 6 0 a0] m) (fun v1 m1 => y_bI (y_V sp ph d 26 [y_bi v1] m1) (fun v2 m2 => if z_w v2 = 0 then y_R sp ph d 28 75 [some (y_bo 6 0 a0), some (y_bi x1), some (y_bi x2), some (y_bi x3)] [] m2 else y_bI (y_V sp ph d 24 [y_bo 6 0 a0] m2) (fun v3 m3 => y_bI (y_V sp ph d 5 [y_bi 100000, y_bi (((x3 * 10) + v3) - 48)] m3) (fun v4 m4 => y_R sp ph d 28 23 [some (y_bo 6 0 a0), some (y_bi x1), some (y_bi x2), some (y_bi v4)] [] (y_sI m4 a0 3 ((y_mI m4 a0 3) + 1))) (fun e m1 => y_px e m1)) (fun e m1 => y_px e m1)) (fun e m1 => y_px e m1)) (fun e m1 => y_px e m1) := by
  rw [y_R_eq (md := z_md_28) rfl rfl]
  exact (y_ic rfl (y_bIc fun v1 m1 => (y_sh (L' := [some (y_bo 6 0 a0), some (y_bi x1), some (y_bi x2), some (y_bi x3)]) (S' := [y_bi v1]) rfl rfl (y_bIc fun v2 m2 => (y_sh (L' := [some (y_bo 6 0 a0), some (y_bi x1), some (y_bi x2), some (y_bi x3)]) (S' := [y_bi v2]) rfl rfl (y_ic rfl (y_bIc fun v3 m3 => (y_sh (L' := [some (y_bo 6 0 a0), some (y_bi x1), some (y_bi x2), some (y_bi x3)]) (S' := [y_bi v3, y_bi (x3 * 10), y_bi 100000]) rfl rfl (y_bIc fun v4 m4 => (y_sh (L' := [some (y_bo 6 0 a0), some (y_bi x1), some (y_bi x2), some (y_bi x3)]) (S' := [y_bi v4]) rfl rfl rfl))))))))))
set_option maxRecDepth 4000 in
theorem y_E_28_75 (d : Nat) (a0 : Nat) (x1 : Int) (x2 : Int) (x3 : Int) (m : y_m) : y_R sp ph d 28 75 [some (y_bo 6 0 a0), some (y_bi x1), some (y_bi x2), some (y_bi x3)] [] m = if z_w x3 < z_w x1 then y_R sp ph d 28 85 [some (y_bo 6 0 a0), some (y_bi x1), none, none] [] m else if z_w x3 ≤ z_w x2 then y_R sp ph d 28 92 [none, none, none, some (y_bi x3)] [] m else y_R sp ph d 28 85 [some (y_bo 6 0 a0), some (y_bi x1), none, none] [] m := (y_R_eq (md := z_md_28) rfl rfl).trans rfl
set_option maxRecDepth 4000 in
theorem y_E_28_85 (d : Nat) (a0 : Nat) (x1 : Int) (m : y_m) : y_R sp ph d 28 85 [some (y_bo 6 0 a0), some (y_bi x1), none, none] [] m = y_bV (y_V sp ph d 21 [y_bo 6 0 a0, y_bi 2] m) (fun m1 => y_rI x1 m1) (fun e m1 => y_px e m1) := by
  rw [y_R_eq (md := z_md_28) rfl rfl]
  exact (y_bVc fun m1 => (y_sh (L' := [some (y_bo 6 0 a0), some (y_bi x1), none, none]) (S' := []) rfl rfl rfl))
set_option maxRecDepth 4000 in
theorem y_E_28_92 (d : Nat) (x3 : Int) (m : y_m) : y_R sp ph d 28 92 [none, none, none, some (y_bi x3)] [] m = y_rI x3 m := (y_R_eq (md := z_md_28) rfl rfl).trans rfl
set_option maxRecDepth 4000 in
theorem y_C_28 (d : Nat) (a0 : Nat) (x1 : Int) (x2 : Int) (m : y_m) : y_V sp ph (d + 1) 28 [y_bo 6 0 a0, y_bi x1, y_bi x2] m = y_R sp ph d 28 0 [some (y_bo 6 0 a0), some (y_bi x1), some (y_bi x2), none] [] m := (y_V_eq (md := z_md_28) rfl rfl rfl).trans rfl
/-! LacedHoles$Tape.readWord ()V -/
set_option maxRecDepth 4000 in
theorem y_E_29_0 (d : Nat) (a0 : Nat) (m : y_m) : y_R sp ph d 29 0 [some (y_bo 6 0 a0)] [] m = y_bV (y_V sp ph d 25 [y_bo 6 0 a0] m) (fun m1 => y_R sp ph d 29 4 [some (y_bo 6 0 a0)] [] m1) (fun e m1 => y_px e m1) := by
  rw [y_R_eq (md := z_md_29) rfl rfl]
  exact (y_bVc fun m1 => (y_sh (L' := [some (y_bo 6 0 a0)]) (S' := []) rfl rfl rfl))
set_option maxRecDepth 4000 in
theorem y_E_29_4 (d : Nat) (a0 : Nat) (m : y_m) : y_R sp ph d 29 4 [some (y_bo 6 0 a0)] [] m = if z_w (y_mI m a0 2) ≤ z_w (y_mI m a0 3) then y_R sp ph d 29 38 [some (y_bo 6 0 a0)] [] m else y_bI (y_V sp ph d 24 [y_bo 6 0 a0] m) (fun v1 m1 => y_bI (y_V sp ph d 27 [y_bi v1] m1) (fun v2 m2 => if z_w v2 = 0 then y_R sp ph d 29 38 [some (y_bo 6 0 a0)] [] m2 else y_R sp ph d 29 4 [some (y_bo 6 0 a0)] [] (y_sI m2 a0 3 ((y_mI m2 a0 3) + 1))) (fun e m1 => y_px e m1)) (fun e m1 => y_px e m1) := by
  rw [y_R_eq (md := z_md_29) rfl rfl]
  exact (y_ic rfl (y_bIc fun v1 m1 => (y_sh (L' := [some (y_bo 6 0 a0)]) (S' := [y_bi v1]) rfl rfl (y_bIc fun v2 m2 => (y_sh (L' := [some (y_bo 6 0 a0)]) (S' := [y_bi v2]) rfl rfl rfl)))))
set_option maxRecDepth 4000 in
theorem y_E_29_38 (d : Nat) (a0 : Nat) (m : y_m) : y_R sp ph d 29 38 [some (y_bo 6 0 a0)] [] m = if ¬ z_w (y_mI m a0 3) = z_w (y_mI m a0 4) then y_R sp ph d 29 54 [none] [] m else y_bV (y_V sp ph d 21 [y_bo 6 0 a0, y_bi 1] m) (fun m1 => y_R sp ph d 29 54 [none] [] m1) (fun e m1 => y_px e m1) := by
  rw [y_R_eq (md := z_md_29) rfl rfl]
  exact (y_ic rfl (y_bVc fun m1 => (y_sh (L' := [some (y_bo 6 0 a0)]) (S' := []) rfl rfl rfl)))
set_option maxRecDepth 4000 in
theorem y_E_29_54 (d : Nat) (m : y_m) : y_R sp ph d 29 54 [none] [] m = y_rV m := (y_R_eq (md := z_md_29) rfl rfl).trans rfl
set_option maxRecDepth 4000 in
theorem y_C_29 (d : Nat) (a0 : Nat) (m : y_m) : y_V sp ph (d + 1) 29 [y_bo 6 0 a0] m = y_R sp ph d 29 0 [some (y_bo 6 0 a0)] [] m := (y_V_eq (md := z_md_29) rfl rfl rfl).trans rfl
/-! LacedHoles$Tape.wordIs (Ljava/lang/String;)Z -/
set_option maxRecDepth 4000 in
theorem y_E_30_0 (d : Nat) (a0 : Nat) (a1 : Nat) (n1 : Nat) (m : y_m) : y_R sp ph d 30 0 [some (y_bo 6 0 a0), some (y_bo 104 n1 a1), none] [] m = y_bI (y_V sp ph d 900 [y_bo 104 n1 a1] m) (fun v1 m1 => if z_w ((y_mI m a0 3) - (y_mI m a0 4)) = z_w v1 then y_R sp ph d 30 18 [some (y_bo 6 0 a0), some (y_bo 104 n1 a1), none] [] m1 else y_rI 0 m1) (fun e m1 => y_px e m1) := by
  rw [y_R_eq (md := z_md_30) rfl rfl]
  exact (y_bIc fun v1 m1 => (y_sh (L' := [some (y_bo 6 0 a0), some (y_bo 104 n1 a1), none]) (S' := [y_bi v1, y_bi ((y_mI m a0 3) - (y_mI m a0 4))]) rfl rfl rfl))
set_option maxRecDepth 4000 in
theorem y_E_30_18 (d : Nat) (a0 : Nat) (a1 : Nat) (n1 : Nat) (m : y_m) : y_R sp ph d 30 18 [some (y_bo 6 0 a0), some (y_bo 104 n1 a1), none] [] m = y_R sp ph d 30 20 [some (y_bo 6 0 a0), some (y_bo 104 n1 a1), some (y_bi 0)] [] m := (y_R_eq (md := z_md_30) rfl rfl).trans rfl
set_option maxRecDepth 4000 in
theorem y_E_30_20 (d : Nat) (a0 : Nat) (a1 : Nat) (n1 : Nat) (x2 : Int) (m : y_m) : y_R sp ph d 30 20 [some (y_bo 6 0 a0), some (y_bo 104 n1 a1), some (y_bi x2)] [] m = y_bI (y_V sp ph d 900 [y_bo 104 n1 a1] m) (fun v1 m1 => if z_w v1 ≤ z_w x2 then y_R sp ph d 30 57 [none, none, none] [] m1 else y_bI (y_V sp ph d 7 [y_bo 100 400 2, y_bi ((y_mI m1 a0 4) + x2)] m1) (fun v2 m2 => y_bI (y_V sp ph d 901 [y_bo 104 n1 a1, y_bi x2] m2) (fun v3 m3 => if z_w v2 = z_w v3 then y_R sp ph d 30 51 [some (y_bo 6 0 a0), some (y_bo 104 n1 a1), some (y_bi x2)] [] m3 else y_rI 0 m3) (fun e m1 => y_px e m1)) (fun e m1 => y_px e m1)) (fun e m1 => y_px e m1) := by
  rw [y_R_eq (md := z_md_30) rfl rfl]
  exact (y_bIc fun v1 m1 => (y_sh (L' := [some (y_bo 6 0 a0), some (y_bo 104 n1 a1), some (y_bi x2)]) (S' := [y_bi v1, y_bi x2]) rfl rfl (y_ic rfl (y_bIc fun v2 m2 => (y_sh (L' := [some (y_bo 6 0 a0), some (y_bo 104 n1 a1), some (y_bi x2)]) (S' := [y_bi v2]) rfl rfl (y_bIc fun v3 m3 => (y_sh (L' := [some (y_bo 6 0 a0), some (y_bo 104 n1 a1), some (y_bi x2)]) (S' := [y_bi v3, y_bi v2]) rfl rfl rfl)))))))
set_option maxRecDepth 4000 in
theorem y_E_30_51 (d : Nat) (a0 : Nat) (a1 : Nat) (n1 : Nat) (x2 : Int) (m : y_m) : y_R sp ph d 30 51 [some (y_bo 6 0 a0), some (y_bo 104 n1 a1), some (y_bi x2)] [] m = y_R sp ph d 30 20 [some (y_bo 6 0 a0), some (y_bo 104 n1 a1), some (y_bi (x2 + 1))] [] m := (y_R_eq (md := z_md_30) rfl rfl).trans rfl
set_option maxRecDepth 4000 in
theorem y_E_30_57 (d : Nat) (m : y_m) : y_R sp ph d 30 57 [none, none, none] [] m = y_rI 1 m := (y_R_eq (md := z_md_30) rfl rfl).trans rfl
set_option maxRecDepth 4000 in
theorem y_C_30 (d : Nat) (a0 : Nat) (a1 : Nat) (n1 : Nat) (m : y_m) : y_V sp ph (d + 1) 30 [y_bo 6 0 a0, y_bo 104 n1 a1] m = y_R sp ph d 30 0 [some (y_bo 6 0 a0), some (y_bo 104 n1 a1), none] [] m := (y_V_eq (md := z_md_30) rfl rfl rfl).trans rfl
/-! LacedHoles$Tape.readSemicolon ()V -/
set_option maxRecDepth 4000 in
theorem y_E_31_0 (d : Nat) (a0 : Nat) (m : y_m) : y_R sp ph d 31 0 [some (y_bo 6 0 a0)] [] m = y_bV (y_V sp ph d 25 [y_bo 6 0 a0] m) (fun m1 => y_bI (y_V sp ph d 24 [y_bo 6 0 a0] m1) (fun v2 m2 => if ¬ z_w v2 = 59 then y_R sp ph d 31 26 [some (y_bo 6 0 a0)] [] m2 else y_R sp ph d 31 31 [none] [] (y_sI m2 a0 3 ((y_mI m2 a0 3) + 1))) (fun e m1 => y_px e m1)) (fun e m1 => y_px e m1) := by
  rw [y_R_eq (md := z_md_31) rfl rfl]
  exact (y_bVc fun m1 => (y_sh (L' := [some (y_bo 6 0 a0)]) (S' := []) rfl rfl (y_bIc fun v2 m2 => (y_sh (L' := [some (y_bo 6 0 a0)]) (S' := [y_bi v2]) rfl rfl rfl))))
set_option maxRecDepth 4000 in
theorem y_E_31_26 (d : Nat) (a0 : Nat) (m : y_m) : y_R sp ph d 31 26 [some (y_bo 6 0 a0)] [] m = y_bV (y_V sp ph d 21 [y_bo 6 0 a0, y_bi 1] m) (fun m1 => y_R sp ph d 31 31 [none] [] m1) (fun e m1 => y_px e m1) := by
  rw [y_R_eq (md := z_md_31) rfl rfl]
  exact (y_bVc fun m1 => (y_sh (L' := [some (y_bo 6 0 a0)]) (S' := []) rfl rfl rfl))
set_option maxRecDepth 4000 in
theorem y_E_31_31 (d : Nat) (m : y_m) : y_R sp ph d 31 31 [none] [] m = y_rV m := (y_R_eq (md := z_md_31) rfl rfl).trans rfl
set_option maxRecDepth 4000 in
theorem y_C_31 (d : Nat) (a0 : Nat) (m : y_m) : y_V sp ph (d + 1) 31 [y_bo 6 0 a0] m = y_R sp ph d 31 0 [some (y_bo 6 0 a0)] [] m := (y_V_eq (md := z_md_31) rfl rfl rfl).trans rfl
/-! LacedHoles$Boot.clear ()V -/
set_option maxRecDepth 4000 in
theorem y_E_33_0 (d : Nat) (a0 : Nat) (m : y_m) : y_R sp ph d 33 0 [some (y_bo 0 0 a0)] [] m = y_rV (y_sI (y_sI (y_sI (y_sI (y_sI (y_sI (y_sI m a0 0 6) a0 1 6) a0 2 30) a0 3 20) a0 4 0) a0 5 0) a0 6 9999) := (y_R_eq (md := z_md_33) rfl rfl).trans rfl
set_option maxRecDepth 4000 in
theorem y_C_33 (d : Nat) (a0 : Nat) (m : y_m) : y_V sp ph (d + 1) 33 [y_bo 0 0 a0] m = y_R sp ph d 33 0 [some (y_bo 0 0 a0)] [] m := (y_V_eq (md := z_md_33) rfl rfl rfl).trans rfl
/-! LacedHoles$Boot.readFrom (LLacedHoles$Tape;)V -/
set_option maxRecDepth 4000 in
theorem y_E_34_0 (d : Nat) (a0 : Nat) (a1 : Nat) (m : y_m) : y_R sp ph d 34 0 [some (y_bo 0 0 a0), some (y_bo 6 0 a1), none] [] m = y_bV (y_V sp ph d 33 [y_bo 0 0 a0] m) (fun m1 => y_R sp ph d 34 6 [some (y_bo 0 0 a0), some (y_bo 6 0 a1), some (y_bi 0)] [] m1) (fun e m1 => y_px e m1) := by
  rw [y_R_eq (md := z_md_34) rfl rfl]
  exact (y_bVc fun m1 => (y_sh (L' := [some (y_bo 0 0 a0), some (y_bo 6 0 a1), none]) (S' := []) rfl rfl rfl))
set_option maxRecDepth 4000 in
theorem y_E_34_6 (d : Nat) (a0 : Nat) (a1 : Nat) (x2 : Int) (m : y_m) : y_R sp ph d 34 6 [some (y_bo 0 0 a0), some (y_bo 6 0 a1), some (y_bi x2)] [] m = if 40 < z_w x2 then y_R sp ph d 34 39 [none, none, none] [] m else y_bI (y_V sp ph d 17 [y_bo 6 0 a1] m) (fun v1 m1 => if ¬ z_w v1 = 0 then y_R sp ph d 34 26 [none, none, none] [] m1 else y_bI (y_V sp ph d 23 [y_bo 6 0 a1] m1) (fun v2 m2 => if z_w v2 = 0 then y_R sp ph d 34 27 [some (y_bo 0 0 a0), some (y_bo 6 0 a1), some (y_bi x2)] [] m2 else y_R sp ph d 34 26 [none, none, none] [] m2) (fun e m1 => y_px e m1)) (fun e m1 => y_px e m1) := by
  rw [y_R_eq (md := z_md_34) rfl rfl]
  exact (y_ic rfl (y_bIc fun v1 m1 => (y_sh (L' := [some (y_bo 0 0 a0), some (y_bo 6 0 a1), some (y_bi x2)]) (S' := [y_bi v1]) rfl rfl (y_ic rfl (y_bIc fun v2 m2 => (y_sh (L' := [some (y_bo 0 0 a0), some (y_bo 6 0 a1), some (y_bi x2)]) (S' := [y_bi v2]) rfl rfl rfl))))))
set_option maxRecDepth 4000 in
theorem y_E_34_26 (d : Nat) (m : y_m) : y_R sp ph d 34 26 [none, none, none] [] m = y_rV m := (y_R_eq (md := z_md_34) rfl rfl).trans rfl
set_option maxRecDepth 4000 in
theorem y_E_34_27 (d : Nat) (a0 : Nat) (a1 : Nat) (x2 : Int) (m : y_m) : y_R sp ph d 34 27 [some (y_bo 0 0 a0), some (y_bo 6 0 a1), some (y_bi x2)] [] m = y_bV (y_V sp ph d 35 [y_bo 0 0 a0, y_bo 6 0 a1, y_bi x2] m) (fun m1 => y_R sp ph d 34 6 [some (y_bo 0 0 a0), some (y_bo 6 0 a1), some (y_bi (x2 + 1))] [] m1) (fun e m1 => y_px e m1) := by
  rw [y_R_eq (md := z_md_34) rfl rfl]
  exact (y_bVc fun m1 => (y_sh (L' := [some (y_bo 0 0 a0), some (y_bo 6 0 a1), some (y_bi x2)]) (S' := []) rfl rfl rfl))
set_option maxRecDepth 4000 in
theorem y_E_34_39 (d : Nat) (m : y_m) : y_R sp ph d 34 39 [none, none, none] [] m = y_rV m := (y_R_eq (md := z_md_34) rfl rfl).trans rfl
set_option maxRecDepth 4000 in
theorem y_C_34 (d : Nat) (a0 : Nat) (a1 : Nat) (m : y_m) : y_V sp ph (d + 1) 34 [y_bo 0 0 a0, y_bo 6 0 a1] m = y_R sp ph d 34 0 [some (y_bo 0 0 a0), some (y_bo 6 0 a1), none] [] m := (y_V_eq (md := z_md_34) rfl rfl rfl).trans rfl
/-! LacedHoles$Boot.readClause (LLacedHoles$Tape;I)V -/
set_option maxRecDepth 4000 in
theorem y_E_35_0 (d : Nat) (a0 : Nat) (a1 : Nat) (x2 : Int) (m : y_m) : y_R sp ph d 35 0 [some (y_bo 0 0 a0), some (y_bo 6 0 a1), some (y_bi x2), none] [] m = y_bV (y_V sp ph d 29 [y_bo 6 0 a1] m) (fun m1 => y_bI (y_V sp ph d 36 [y_bo 6 0 a1] m1) (fun v2 m2 => if ¬ z_w v2 = (-1) then y_R sp ph d 35 22 [some (y_bo 0 0 a0), some (y_bo 6 0 a1), some (y_bi x2), some (y_bi v2)] [] m2 else y_bV (y_V sp ph d 21 [y_bo 6 0 a1, y_bi 1] m2) (fun m3 => y_R sp ph d 35 62 [none, none, none, none] [] m3) (fun e m1 => y_px e m1)) (fun e m1 => y_px e m1)) (fun e m1 => y_px e m1) := by
  rw [y_R_eq (md := z_md_35) rfl rfl]
  exact (y_bVc fun m1 => (y_sh (L' := [some (y_bo 0 0 a0), some (y_bo 6 0 a1), some (y_bi x2), none]) (S' := []) rfl rfl (y_bIc fun v2 m2 => (y_sh (L' := [some (y_bo 0 0 a0), some (y_bo 6 0 a1), some (y_bi x2), none]) (S' := [y_bi v2]) rfl rfl (y_ic rfl (y_bVc fun m3 => (y_sh (L' := [some (y_bo 0 0 a0), some (y_bo 6 0 a1), some (y_bi x2), some (y_bi v2)]) (S' := []) rfl rfl rfl)))))))
set_option maxRecDepth 4000 in
theorem y_E_35_22 (d : Nat) (a0 : Nat) (a1 : Nat) (x2 : Int) (x3 : Int) (m : y_m) : y_R sp ph d 35 22 [some (y_bo 0 0 a0), some (y_bo 6 0 a1), some (y_bi x2), some (y_bi x3)] [] m = if z_w x2 < 40 then y_R sp ph d 35 36 [some (y_bo 0 0 a0), some (y_bo 6 0 a1), some (y_bi x2), some (y_bi x3)] [] m else y_bV (y_V sp ph d 21 [y_bo 6 0 a1, y_bi 3] m) (fun m1 => y_R sp ph d 35 62 [none, none, none, none] [] m1) (fun e m1 => y_px e m1) := by
  rw [y_R_eq (md := z_md_35) rfl rfl]
  exact (y_ic rfl (y_bVc fun m1 => (y_sh (L' := [some (y_bo 0 0 a0), some (y_bo 6 0 a1), some (y_bi x2), some (y_bi x3)]) (S' := []) rfl rfl rfl)))
set_option maxRecDepth 4000 in
theorem y_E_35_36 (d : Nat) (a0 : Nat) (a1 : Nat) (x2 : Int) (x3 : Int) (m : y_m) : y_R sp ph d 35 36 [some (y_bo 0 0 a0), some (y_bo 6 0 a1), some (y_bi x2), some (y_bi x3)] [] m = if ¬ z_w x3 = 0 then y_R sp ph d 35 52 [some (y_bo 0 0 a0), some (y_bo 6 0 a1), none, some (y_bi x3)] [] m else if z_w x2 ≤ 0 then y_R sp ph d 35 52 [some (y_bo 0 0 a0), some (y_bo 6 0 a1), none, some (y_bi x3)] [] m else y_bV (y_V sp ph d 21 [y_bo 6 0 a1, y_bi 4] m) (fun m1 => y_R sp ph d 35 62 [none, none, none, none] [] m1) (fun e m1 => y_px e m1) := by
  rw [y_R_eq (md := z_md_35) rfl rfl]
  exact (y_ic rfl (y_ic rfl (y_bVc fun m1 => (y_sh (L' := [some (y_bo 0 0 a0), some (y_bo 6 0 a1), some (y_bi x2), some (y_bi x3)]) (S' := []) rfl rfl rfl))))
set_option maxRecDepth 4000 in
theorem y_E_35_52 (d : Nat) (a0 : Nat) (a1 : Nat) (x3 : Int) (m : y_m) : y_R sp ph d 35 52 [some (y_bo 0 0 a0), some (y_bo 6 0 a1), none, some (y_bi x3)] [] m = y_bV (y_V sp ph d 37 [y_bo 0 0 a0, y_bo 6 0 a1, y_bi x3] m) (fun m1 => y_bV (y_V sp ph d 31 [y_bo 6 0 a1] m1) (fun m2 => y_R sp ph d 35 62 [none, none, none, none] [] m2) (fun e m1 => y_px e m1)) (fun e m1 => y_px e m1) := by
  rw [y_R_eq (md := z_md_35) rfl rfl]
  exact (y_bVc fun m1 => (y_sh (L' := [some (y_bo 0 0 a0), some (y_bo 6 0 a1), none, some (y_bi x3)]) (S' := []) rfl rfl (y_bVc fun m2 => (y_sh (L' := [some (y_bo 0 0 a0), some (y_bo 6 0 a1), none, some (y_bi x3)]) (S' := []) rfl rfl rfl))))
set_option maxRecDepth 4000 in
theorem y_E_35_62 (d : Nat) (m : y_m) : y_R sp ph d 35 62 [none, none, none, none] [] m = y_rV m := (y_R_eq (md := z_md_35) rfl rfl).trans rfl
set_option maxRecDepth 4000 in
theorem y_C_35 (d : Nat) (a0 : Nat) (a1 : Nat) (x2 : Int) (m : y_m) : y_V sp ph (d + 1) 35 [y_bo 0 0 a0, y_bo 6 0 a1, y_bi x2] m = y_R sp ph d 35 0 [some (y_bo 0 0 a0), some (y_bo 6 0 a1), some (y_bi x2), none] [] m := (y_V_eq (md := z_md_35) rfl rfl rfl).trans rfl
/-! LacedHoles$Boot.kindOfWord (LLacedHoles$Tape;)I -/
set_option maxRecDepth 4000 in
theorem y_E_36_0 (d : Nat) (a0 : Nat) (m : y_m) : y_R sp ph d 36 0 [some (y_bo 6 0 a0)] [] m = y_bI (y_V sp ph d 30 [y_bo 6 0 a0, y_bo 104 0 0] m) (fun v1 m1 => if z_w v1 = 0 then y_R sp ph d 36 11 [some (y_bo 6 0 a0)] [] m1 else y_rI 0 m1) (fun e m1 => y_px e m1) := by
  rw [y_R_eq (md := z_md_36) rfl rfl]
  exact (y_bIc fun v1 m1 => (y_sh (L' := [some (y_bo 6 0 a0)]) (S' := [y_bi v1]) rfl rfl rfl))
set_option maxRecDepth 4000 in
theorem y_E_36_11 (d : Nat) (a0 : Nat) (m : y_m) : y_R sp ph d 36 11 [some (y_bo 6 0 a0)] [] m = y_bI (y_V sp ph d 30 [y_bo 6 0 a0, y_bo 104 0 1] m) (fun v1 m1 => if z_w v1 = 0 then y_R sp ph d 36 22 [some (y_bo 6 0 a0)] [] m1 else y_rI 1 m1) (fun e m1 => y_px e m1) := by
  rw [y_R_eq (md := z_md_36) rfl rfl]
  exact (y_bIc fun v1 m1 => (y_sh (L' := [some (y_bo 6 0 a0)]) (S' := [y_bi v1]) rfl rfl rfl))
set_option maxRecDepth 4000 in
theorem y_E_36_22 (d : Nat) (a0 : Nat) (m : y_m) : y_R sp ph d 36 22 [some (y_bo 6 0 a0)] [] m = y_bI (y_V sp ph d 30 [y_bo 6 0 a0, y_bo 104 0 2] m) (fun v1 m1 => if z_w v1 = 0 then y_R sp ph d 36 33 [some (y_bo 6 0 a0)] [] m1 else y_rI 2 m1) (fun e m1 => y_px e m1) := by
  rw [y_R_eq (md := z_md_36) rfl rfl]
  exact (y_bIc fun v1 m1 => (y_sh (L' := [some (y_bo 6 0 a0)]) (S' := [y_bi v1]) rfl rfl rfl))
set_option maxRecDepth 4000 in
theorem y_E_36_33 (d : Nat) (a0 : Nat) (m : y_m) : y_R sp ph d 36 33 [some (y_bo 6 0 a0)] [] m = y_bI (y_V sp ph d 30 [y_bo 6 0 a0, y_bo 104 0 3] m) (fun v1 m1 => if z_w v1 = 0 then y_R sp ph d 36 44 [some (y_bo 6 0 a0)] [] m1 else y_rI 3 m1) (fun e m1 => y_px e m1) := by
  rw [y_R_eq (md := z_md_36) rfl rfl]
  exact (y_bIc fun v1 m1 => (y_sh (L' := [some (y_bo 6 0 a0)]) (S' := [y_bi v1]) rfl rfl rfl))
set_option maxRecDepth 4000 in
theorem y_E_36_44 (d : Nat) (a0 : Nat) (m : y_m) : y_R sp ph d 36 44 [some (y_bo 6 0 a0)] [] m = y_bI (y_V sp ph d 30 [y_bo 6 0 a0, y_bo 104 0 4] m) (fun v1 m1 => if z_w v1 = 0 then y_R sp ph d 36 57 [none] [] m1 else y_R sp ph d 36 58 [none] [y_bi 4] m1) (fun e m1 => y_px e m1) := by
  rw [y_R_eq (md := z_md_36) rfl rfl]
  exact (y_bIc fun v1 m1 => (y_sh (L' := [some (y_bo 6 0 a0)]) (S' := [y_bi v1]) rfl rfl rfl))
set_option maxRecDepth 4000 in
theorem y_E_36_57 (d : Nat) (m : y_m) : y_R sp ph d 36 57 [none] [] m = y_R sp ph d 36 58 [none] [y_bi (-1)] m := (y_R_eq (md := z_md_36) rfl rfl).trans rfl
set_option maxRecDepth 4000 in
theorem y_E_36_58 (d : Nat) (xs0 : Int) (m : y_m) : y_R sp ph d 36 58 [none] [y_bi xs0] m = y_rI xs0 m := (y_R_eq (md := z_md_36) rfl rfl).trans rfl
set_option maxRecDepth 4000 in
theorem y_C_36 (d : Nat) (a0 : Nat) (m : y_m) : y_V sp ph (d + 1) 36 [y_bo 6 0 a0] m = y_R sp ph d 36 0 [some (y_bo 6 0 a0)] [] m := (y_V_eq (md := z_md_36) rfl rfl rfl).trans rfl
/-! LacedHoles$Boot.readValues (LLacedHoles$Tape;I)V -/
set_option maxRecDepth 4000 in
theorem y_E_37_0_d (d : Nat) (a0 : Nat) (a1 : Nat) (x2 : Int) (m : y_m) (h : z_w x2 < 0 ∨ 3 < z_w x2) : y_R sp ph d 37 0 [some (y_bo 0 0 a0), some (y_bo 6 0 a1), some (y_bi x2)] [] m = y_R sp ph d 37 120 [some (y_bo 0 0 a0), some (y_bo 6 0 a1), none] [] m := by
  rw [y_R_eq (md := z_md_37) rfl rfl]
  exact (by
    show (if z_w x2 < _ ∨ _ < z_w x2 then _ else _) = _
    rw [if_pos h]; rfl)
set_option maxRecDepth 4000 in
theorem y_E_37_0_0 (d : Nat) (a0 : Nat) (a1 : Nat) (x2 : Int) (m : y_m) (h : z_w x2 = 0) : y_R sp ph d 37 0 [some (y_bo 0 0 a0), some (y_bo 6 0 a1), some (y_bi x2)] [] m = y_R sp ph d 37 32 [some (y_bo 0 0 a0), some (y_bo 6 0 a1), none] [] m := by
  rw [y_R_eq (md := z_md_37) rfl rfl]
  exact (by
    show (if z_w x2 < _ ∨ _ < z_w x2 then _ else _) = _
    rw [h]; rfl)
set_option maxRecDepth 4000 in
theorem y_E_37_0_1 (d : Nat) (a0 : Nat) (a1 : Nat) (x2 : Int) (m : y_m) (h : z_w x2 = 1) : y_R sp ph d 37 0 [some (y_bo 0 0 a0), some (y_bo 6 0 a1), some (y_bi x2)] [] m = y_R sp ph d 37 57 [some (y_bo 0 0 a0), some (y_bo 6 0 a1), none] [] m := by
  rw [y_R_eq (md := z_md_37) rfl rfl]
  exact (by
    show (if z_w x2 < _ ∨ _ < z_w x2 then _ else _) = _
    rw [h]; rfl)
set_option maxRecDepth 4000 in
theorem y_E_37_0_2 (d : Nat) (a0 : Nat) (a1 : Nat) (x2 : Int) (m : y_m) (h : z_w x2 = 2) : y_R sp ph d 37 0 [some (y_bo 0 0 a0), some (y_bo 6 0 a1), some (y_bi x2)] [] m = y_R sp ph d 37 82 [some (y_bo 0 0 a0), some (y_bo 6 0 a1), none] [] m := by
  rw [y_R_eq (md := z_md_37) rfl rfl]
  exact (by
    show (if z_w x2 < _ ∨ _ < z_w x2 then _ else _) = _
    rw [h]; rfl)
set_option maxRecDepth 4000 in
theorem y_E_37_0_3 (d : Nat) (a0 : Nat) (a1 : Nat) (x2 : Int) (m : y_m) (h : z_w x2 = 3) : y_R sp ph d 37 0 [some (y_bo 0 0 a0), some (y_bo 6 0 a1), some (y_bi x2)] [] m = y_R sp ph d 37 107 [some (y_bo 0 0 a0), some (y_bo 6 0 a1), none] [] m := by
  rw [y_R_eq (md := z_md_37) rfl rfl]
  exact (by
    show (if z_w x2 < _ ∨ _ < z_w x2 then _ else _) = _
    rw [h]; rfl)
set_option maxRecDepth 4000 in
theorem y_E_37_32 (d : Nat) (a0 : Nat) (a1 : Nat) (m : y_m) : y_R sp ph d 37 32 [some (y_bo 0 0 a0), some (y_bo 6 0 a1), none] [] m = y_bI (y_V sp ph d 28 [y_bo 6 0 a1, y_bi 1, y_bi 6] m) (fun v1 m1 => y_bI (y_V sp ph d 28 [y_bo 6 0 a1, y_bi 1, y_bi 6] (y_sI m1 a0 0 v1)) (fun v2 m2 => y_R sp ph d 37 132 [none, none, none] [] (y_sI m2 a0 1 v2)) (fun e m1 => y_px e m1)) (fun e m1 => y_px e m1) := by
  rw [y_R_eq (md := z_md_37) rfl rfl]
  exact (y_bIc fun v1 m1 => (y_sh (L' := [some (y_bo 0 0 a0), some (y_bo 6 0 a1), none]) (S' := [y_bi v1, y_bo 0 0 a0]) rfl rfl (y_bIc fun v2 m2 => (y_sh (L' := [some (y_bo 0 0 a0), some (y_bo 6 0 a1), none]) (S' := [y_bi v2, y_bo 0 0 a0]) rfl rfl rfl))))
set_option maxRecDepth 4000 in
theorem y_E_37_57 (d : Nat) (a0 : Nat) (a1 : Nat) (m : y_m) : y_R sp ph d 37 57 [some (y_bo 0 0 a0), some (y_bo 6 0 a1), none] [] m = y_bI (y_V sp ph d 28 [y_bo 6 0 a1, y_bi 1, y_bi 99] m) (fun v1 m1 => y_bI (y_V sp ph d 28 [y_bo 6 0 a1, y_bi 1, y_bi 99] (y_sI m1 a0 2 v1)) (fun v2 m2 => y_R sp ph d 37 132 [none, none, none] [] (y_sI m2 a0 3 v2)) (fun e m1 => y_px e m1)) (fun e m1 => y_px e m1) := by
  rw [y_R_eq (md := z_md_37) rfl rfl]
  exact (y_bIc fun v1 m1 => (y_sh (L' := [some (y_bo 0 0 a0), some (y_bo 6 0 a1), none]) (S' := [y_bi v1, y_bo 0 0 a0]) rfl rfl (y_bIc fun v2 m2 => (y_sh (L' := [some (y_bo 0 0 a0), some (y_bo 6 0 a1), none]) (S' := [y_bi v2, y_bo 0 0 a0]) rfl rfl rfl))))
set_option maxRecDepth 4000 in
theorem y_E_37_82 (d : Nat) (a0 : Nat) (a1 : Nat) (m : y_m) : y_R sp ph d 37 82 [some (y_bo 0 0 a0), some (y_bo 6 0 a1), none] [] m = y_bI (y_V sp ph d 38 [y_bo 0 0 a0] m) (fun v1 m1 => y_bI (y_V sp ph d 28 [y_bo 6 0 a1, y_bi 0, y_bi (v1 - 1)] m1) (fun v2 m2 => y_R sp ph d 37 132 [none, none, none] [] (y_sI m2 a0 4 (z_ior (y_mI m a0 4) (z_ishl 1 v2)))) (fun e m1 => y_px e m1)) (fun e m1 => y_px e m1) := by
  rw [y_R_eq (md := z_md_37) rfl rfl]
  exact (y_bIc fun v1 m1 => (y_sh (L' := [some (y_bo 0 0 a0), some (y_bo 6 0 a1), none]) (S' := [y_bi v1, y_bi 0, y_bo 6 0 a1, y_bi 1, y_bi (y_mI m a0 4), y_bo 0 0 a0]) rfl rfl (y_bIc fun v2 m2 => (y_sh (L' := [some (y_bo 0 0 a0), some (y_bo 6 0 a1), none]) (S' := [y_bi v2, y_bi 1, y_bi (y_mI m a0 4), y_bo 0 0 a0]) rfl rfl rfl))))
set_option maxRecDepth 4000 in
theorem y_E_37_107 (d : Nat) (a0 : Nat) (a1 : Nat) (m : y_m) : y_R sp ph d 37 107 [some (y_bo 0 0 a0), some (y_bo 6 0 a1), none] [] m = y_bI (y_V sp ph d 28 [y_bo 6 0 a1, y_bi 0, y_bi 2] m) (fun v1 m1 => y_R sp ph d 37 132 [none, none, none] [] (y_sI m1 a0 5 v1)) (fun e m1 => y_px e m1) := by
  rw [y_R_eq (md := z_md_37) rfl rfl]
  exact (y_bIc fun v1 m1 => (y_sh (L' := [some (y_bo 0 0 a0), some (y_bo 6 0 a1), none]) (S' := [y_bi v1, y_bo 0 0 a0]) rfl rfl rfl))
set_option maxRecDepth 4000 in
theorem y_E_37_120 (d : Nat) (a0 : Nat) (a1 : Nat) (m : y_m) : y_R sp ph d 37 120 [some (y_bo 0 0 a0), some (y_bo 6 0 a1), none] [] m = y_bI (y_V sp ph d 28 [y_bo 6 0 a1, y_bi 1, y_bi 9999] m) (fun v1 m1 => y_R sp ph d 37 132 [none, none, none] [] (y_sI m1 a0 6 v1)) (fun e m1 => y_px e m1) := by
  rw [y_R_eq (md := z_md_37) rfl rfl]
  exact (y_bIc fun v1 m1 => (y_sh (L' := [some (y_bo 0 0 a0), some (y_bo 6 0 a1), none]) (S' := [y_bi v1, y_bo 0 0 a0]) rfl rfl rfl))
set_option maxRecDepth 4000 in
theorem y_E_37_132 (d : Nat) (m : y_m) : y_R sp ph d 37 132 [none, none, none] [] m = y_rV m := (y_R_eq (md := z_md_37) rfl rfl).trans rfl
set_option maxRecDepth 4000 in
theorem y_C_37 (d : Nat) (a0 : Nat) (a1 : Nat) (x2 : Int) (m : y_m) : y_V sp ph (d + 1) 37 [y_bo 0 0 a0, y_bo 6 0 a1, y_bi x2] m = y_R sp ph d 37 0 [some (y_bo 0 0 a0), some (y_bo 6 0 a1), some (y_bi x2)] [] m := (y_V_eq (md := z_md_37) rfl rfl rfl).trans rfl
/-! LacedHoles$Boot.holes ()I -/
set_option maxRecDepth 4000 in
theorem y_E_38_0 (d : Nat) (a0 : Nat) (m : y_m) : y_R sp ph d 38 0 [some (y_bo 0 0 a0)] [] m = y_rI ((y_mI m a0 0) + (y_mI m a0 1)) m := (y_R_eq (md := z_md_38) rfl rfl).trans rfl
set_option maxRecDepth 4000 in
theorem y_C_38 (d : Nat) (a0 : Nat) (m : y_m) : y_V sp ph (d + 1) 38 [y_bo 0 0 a0] m = y_R sp ph d 38 0 [some (y_bo 0 0 a0)] [] m := (y_V_eq (md := z_md_38) rfl rfl rfl).trans rfl
/-! LacedHoles$Boot.hasHole (I)Z -/
set_option maxRecDepth 4000 in
theorem y_E_39_0 (d : Nat) (a0 : Nat) (x1 : Int) (m : y_m) : y_R sp ph d 39 0 [some (y_bo 0 0 a0), some (y_bi x1)] [] m = if z_w x1 < 0 then y_R sp ph d 39 16 [none, none] [] m else y_bI (y_V sp ph d 38 [y_bo 0 0 a0] m) (fun v1 m1 => if z_w v1 ≤ z_w x1 then y_R sp ph d 39 16 [none, none] [] m1 else y_R sp ph d 39 17 [none, none] [y_bi 1] m1) (fun e m1 => y_px e m1) := by
  rw [y_R_eq (md := z_md_39) rfl rfl]
  exact (y_ic rfl (y_bIc fun v1 m1 => (y_sh (L' := [some (y_bo 0 0 a0), some (y_bi x1)]) (S' := [y_bi v1, y_bi x1]) rfl rfl rfl)))
set_option maxRecDepth 4000 in
theorem y_E_39_16 (d : Nat) (m : y_m) : y_R sp ph d 39 16 [none, none] [] m = y_R sp ph d 39 17 [none, none] [y_bi 0] m := (y_R_eq (md := z_md_39) rfl rfl).trans rfl
set_option maxRecDepth 4000 in
theorem y_E_39_17 (d : Nat) (xs0 : Int) (m : y_m) : y_R sp ph d 39 17 [none, none] [y_bi xs0] m = y_g (xs0 = 0 ∨ xs0 = 1) (y_rI xs0 m) := (y_R_eq (md := z_md_39) rfl rfl).trans rfl
set_option maxRecDepth 4000 in
theorem y_C_39 (d : Nat) (a0 : Nat) (x1 : Int) (m : y_m) : y_V sp ph (d + 1) 39 [y_bo 0 0 a0, y_bi x1] m = y_R sp ph d 39 0 [some (y_bo 0 0 a0), some (y_bi x1)] [] m := (y_V_eq (md := z_md_39) rfl rfl rfl).trans rfl
/-! LacedHoles$Boot.isTorn (I)Z -/
set_option maxRecDepth 4000 in
theorem y_E_40_0 (d : Nat) (a0 : Nat) (x1 : Int) (m : y_m) : y_R sp ph d 40 0 [some (y_bo 0 0 a0), some (y_bi x1)] [] m = if z_w (z_iand (z_ishr (y_mI m a0 4) x1) 1) = 0 then y_R sp ph d 40 15 [none, none] [] m else y_R sp ph d 40 16 [none, none] [y_bi 1] m := (y_R_eq (md := z_md_40) rfl rfl).trans rfl
set_option maxRecDepth 4000 in
theorem y_E_40_15 (d : Nat) (m : y_m) : y_R sp ph d 40 15 [none, none] [] m = y_R sp ph d 40 16 [none, none] [y_bi 0] m := (y_R_eq (md := z_md_40) rfl rfl).trans rfl
set_option maxRecDepth 4000 in
theorem y_E_40_16 (d : Nat) (xs0 : Int) (m : y_m) : y_R sp ph d 40 16 [none, none] [y_bi xs0] m = y_g (xs0 = 0 ∨ xs0 = 1) (y_rI xs0 m) := (y_R_eq (md := z_md_40) rfl rfl).trans rfl
set_option maxRecDepth 4000 in
theorem y_C_40 (d : Nat) (a0 : Nat) (x1 : Int) (m : y_m) : y_V sp ph (d + 1) 40 [y_bo 0 0 a0, y_bi x1] m = y_R sp ph d 40 0 [some (y_bo 0 0 a0), some (y_bi x1)] [] m := (y_V_eq (md := z_md_40) rfl rfl rfl).trans rfl
/-! LacedHoles$Boot.whole ()I -/
set_option maxRecDepth 4000 in
theorem y_E_41_0 (d : Nat) (a0 : Nat) (m : y_m) : y_R sp ph d 41 0 [some (y_bo 0 0 a0)] [] m = y_bI (y_V sp ph d 38 [y_bo 0 0 a0] m) (fun v1 m1 => y_rI (z_iand ((z_ishl 1 v1) - 1) (z_ixor (y_mI m1 a0 4) (-1))) m1) (fun e m1 => y_px e m1) := by
  rw [y_R_eq (md := z_md_41) rfl rfl]
  exact (y_bIc fun v1 m1 => (y_sh (L' := [some (y_bo 0 0 a0)]) (S' := [y_bi v1, y_bi 1]) rfl rfl rfl))
set_option maxRecDepth 4000 in
theorem y_C_41 (d : Nat) (a0 : Nat) (m : y_m) : y_V sp ph (d + 1) 41 [y_bo 0 0 a0] m = y_R sp ph d 41 0 [some (y_bo 0 0 a0)] [] m := (y_V_eq (md := z_md_41) rfl rfl rfl).trans rfl
/-! LacedHoles$Boot.isEven ()Z -/
set_option maxRecDepth 4000 in
theorem y_E_42_0 (d : Nat) (a0 : Nat) (m : y_m) : y_R sp ph d 42 0 [some (y_bo 0 0 a0)] [] m = if ¬ z_w (y_mI m a0 0) = z_w (y_mI m a0 1) then y_R sp ph d 42 22 [none] [] m else if ¬ z_w (y_mI m a0 4) = 0 then y_R sp ph d 42 22 [none] [] m else y_R sp ph d 42 23 [none] [y_bi 1] m := (y_R_eq (md := z_md_42) rfl rfl).trans rfl
set_option maxRecDepth 4000 in
theorem y_E_42_22 (d : Nat) (m : y_m) : y_R sp ph d 42 22 [none] [] m = y_R sp ph d 42 23 [none] [y_bi 0] m := (y_R_eq (md := z_md_42) rfl rfl).trans rfl
set_option maxRecDepth 4000 in
theorem y_E_42_23 (d : Nat) (xs0 : Int) (m : y_m) : y_R sp ph d 42 23 [none] [y_bi xs0] m = y_g (xs0 = 0 ∨ xs0 = 1) (y_rI xs0 m) := (y_R_eq (md := z_md_42) rfl rfl).trans rfl
set_option maxRecDepth 4000 in
theorem y_C_42 (d : Nat) (a0 : Nat) (m : y_m) : y_V sp ph (d + 1) 42 [y_bo 0 0 a0] m = y_R sp ph d 42 0 [some (y_bo 0 0 a0)] [] m := (y_V_eq (md := z_md_42) rfl rfl rfl).trans rfl
/-! LacedHoles$Boot.row (I)I -/
set_option maxRecDepth 4000 in
theorem y_E_43_0 (d : Nat) (a0 : Nat) (x1 : Int) (m : y_m) : y_R sp ph d 43 0 [some (y_bo 0 0 a0), some (y_bi x1)] [] m = if z_w (y_mI m a0 0) ≤ z_w x1 then y_R sp ph d 43 12 [none, none] [] m else y_R sp ph d 43 13 [none, none] [y_bi 0] m := (y_R_eq (md := z_md_43) rfl rfl).trans rfl
set_option maxRecDepth 4000 in
theorem y_E_43_12 (d : Nat) (m : y_m) : y_R sp ph d 43 12 [none, none] [] m = y_R sp ph d 43 13 [none, none] [y_bi 1] m := (y_R_eq (md := z_md_43) rfl rfl).trans rfl
set_option maxRecDepth 4000 in
theorem y_E_43_13 (d : Nat) (xs0 : Int) (m : y_m) : y_R sp ph d 43 13 [none, none] [y_bi xs0] m = y_rI xs0 m := (y_R_eq (md := z_md_43) rfl rfl).trans rfl
set_option maxRecDepth 4000 in
theorem y_C_43 (d : Nat) (a0 : Nat) (x1 : Int) (m : y_m) : y_V sp ph (d + 1) 43 [y_bo 0 0 a0, y_bi x1] m = y_R sp ph d 43 0 [some (y_bo 0 0 a0), some (y_bi x1)] [] m := (y_V_eq (md := z_md_43) rfl rfl rfl).trans rfl
/-! LacedHoles$Boot.inRow (I)I -/
set_option maxRecDepth 4000 in
theorem y_E_44_0 (d : Nat) (a0 : Nat) (x1 : Int) (m : y_m) : y_R sp ph d 44 0 [some (y_bo 0 0 a0), some (y_bi x1)] [] m = if z_w (y_mI m a0 0) ≤ z_w x1 then y_R sp ph d 44 12 [some (y_bo 0 0 a0), some (y_bi x1)] [] m else y_R sp ph d 44 18 [none, none] [y_bi x1] m := (y_R_eq (md := z_md_44) rfl rfl).trans rfl
set_option maxRecDepth 4000 in
theorem y_E_44_12 (d : Nat) (a0 : Nat) (x1 : Int) (m : y_m) : y_R sp ph d 44 12 [some (y_bo 0 0 a0), some (y_bi x1)] [] m = y_R sp ph d 44 18 [none, none] [y_bi (x1 - (y_mI m a0 0))] m := (y_R_eq (md := z_md_44) rfl rfl).trans rfl
set_option maxRecDepth 4000 in
theorem y_E_44_18 (d : Nat) (xs0 : Int) (m : y_m) : y_R sp ph d 44 18 [none, none] [y_bi xs0] m = y_rI xs0 m := (y_R_eq (md := z_md_44) rfl rfl).trans rfl
set_option maxRecDepth 4000 in
theorem y_C_44 (d : Nat) (a0 : Nat) (x1 : Int) (m : y_m) : y_V sp ph (d + 1) 44 [y_bo 0 0 a0, y_bi x1] m = y_R sp ph d 44 0 [some (y_bo 0 0 a0), some (y_bi x1)] [] m := (y_V_eq (md := z_md_44) rfl rfl rfl).trans rfl
/-! LacedHoles$Boot.across (II)I -/
set_option maxRecDepth 4000 in
theorem y_E_45_0 (d : Nat) (a0 : Nat) (x1 : Int) (x2 : Int) (m : y_m) : y_R sp ph d 45 0 [some (y_bo 0 0 a0), some (y_bi x1), some (y_bi x2)] [] m = y_bI (y_V sp ph d 43 [y_bo 0 0 a0, y_bi x1] m) (fun v1 m1 => y_bI (y_V sp ph d 43 [y_bo 0 0 a0, y_bi x2] m1) (fun v2 m2 => if ¬ z_w v1 = z_w v2 then y_R sp ph d 45 17 [none, none, none] [] m2 else y_R sp ph d 45 18 [none, none, none] [y_bi 0] m2) (fun e m1 => y_px e m1)) (fun e m1 => y_px e m1) := by
  rw [y_R_eq (md := z_md_45) rfl rfl]
  exact (y_bIc fun v1 m1 => (y_sh (L' := [some (y_bo 0 0 a0), some (y_bi x1), some (y_bi x2)]) (S' := [y_bi v1]) rfl rfl (y_bIc fun v2 m2 => (y_sh (L' := [some (y_bo 0 0 a0), some (y_bi x1), some (y_bi x2)]) (S' := [y_bi v2, y_bi v1]) rfl rfl rfl))))
set_option maxRecDepth 4000 in
theorem y_E_45_17 (d : Nat) (m : y_m) : y_R sp ph d 45 17 [none, none, none] [] m = y_R sp ph d 45 18 [none, none, none] [y_bi 1] m := (y_R_eq (md := z_md_45) rfl rfl).trans rfl
set_option maxRecDepth 4000 in
theorem y_E_45_18 (d : Nat) (xs0 : Int) (m : y_m) : y_R sp ph d 45 18 [none, none, none] [y_bi xs0] m = y_rI xs0 m := (y_R_eq (md := z_md_45) rfl rfl).trans rfl
set_option maxRecDepth 4000 in
theorem y_C_45 (d : Nat) (a0 : Nat) (x1 : Int) (x2 : Int) (m : y_m) : y_V sp ph (d + 1) 45 [y_bo 0 0 a0, y_bi x1, y_bi x2] m = y_R sp ph d 45 0 [some (y_bo 0 0 a0), some (y_bi x1), some (y_bi x2)] [] m := (y_V_eq (md := z_md_45) rfl rfl rfl).trans rfl
/-! LacedHoles$Boot.allows (II)Z -/
set_option maxRecDepth 4000 in
theorem y_E_46_0 (d : Nat) (a0 : Nat) (x1 : Int) (x2 : Int) (m : y_m) : y_R sp ph d 46 0 [some (y_bo 0 0 a0), some (y_bi x1), some (y_bi x2)] [] m = if ¬ z_w (y_mI m a0 5) = 0 then y_R sp ph d 46 9 [some (y_bo 0 0 a0), some (y_bi x1), some (y_bi x2)] [] m else y_rI 1 m := (y_R_eq (md := z_md_46) rfl rfl).trans rfl
set_option maxRecDepth 4000 in
theorem y_E_46_9 (d : Nat) (a0 : Nat) (x1 : Int) (x2 : Int) (m : y_m) : y_R sp ph d 46 9 [some (y_bo 0 0 a0), some (y_bi x1), some (y_bi x2)] [] m = if ¬ z_w (y_mI m a0 5) = 1 then y_R sp ph d 46 32 [none, some (y_bi x1), some (y_bi x2)] [] m else if z_w (x1 + x2) < 1 then y_R sp ph d 46 28 [none, none, none] [] m else y_R sp ph d 46 44 [none, none, none] [y_bi 1] m := (y_R_eq (md := z_md_46) rfl rfl).trans rfl
set_option maxRecDepth 4000 in
theorem y_E_46_28 (d : Nat) (m : y_m) : y_R sp ph d 46 28 [none, none, none] [] m = y_R sp ph d 46 44 [none, none, none] [y_bi 0] m := (y_R_eq (md := z_md_46) rfl rfl).trans rfl
set_option maxRecDepth 4000 in
theorem y_E_46_32 (d : Nat) (x1 : Int) (x2 : Int) (m : y_m) : y_R sp ph d 46 32 [none, some (y_bi x1), some (y_bi x2)] [] m = if ¬ z_w (x1 + x2) = 1 then y_R sp ph d 46 43 [none, none, none] [] m else y_R sp ph d 46 44 [none, none, none] [y_bi 1] m := (y_R_eq (md := z_md_46) rfl rfl).trans rfl
set_option maxRecDepth 4000 in
theorem y_E_46_43 (d : Nat) (m : y_m) : y_R sp ph d 46 43 [none, none, none] [] m = y_R sp ph d 46 44 [none, none, none] [y_bi 0] m := (y_R_eq (md := z_md_46) rfl rfl).trans rfl
set_option maxRecDepth 4000 in
theorem y_E_46_44 (d : Nat) (xs0 : Int) (m : y_m) : y_R sp ph d 46 44 [none, none, none] [y_bi xs0] m = y_g (xs0 = 0 ∨ xs0 = 1) (y_rI xs0 m) := (y_R_eq (md := z_md_46) rfl rfl).trans rfl
set_option maxRecDepth 4000 in
theorem y_C_46 (d : Nat) (a0 : Nat) (x1 : Int) (x2 : Int) (m : y_m) : y_V sp ph (d + 1) 46 [y_bo 0 0 a0, y_bi x1, y_bi x2] m = y_R sp ph d 46 0 [some (y_bo 0 0 a0), some (y_bi x1), some (y_bi x2)] [] m := (y_V_eq (md := z_md_46) rfl rfl rfl).trans rfl
/-! LacedHoles$Boot.imageOf (IZZ)I -/
set_option maxRecDepth 4000 in
theorem y_E_47_0 (d : Nat) (a0 : Nat) (x1 : Int) (x2 : Int) (x3 : Int) (m : y_m) : y_R sp ph d 47 0 [some (y_bo 0 0 a0), some (y_bi x1), some (y_bi x2), some (y_bi x3), none, none, none] [] m = if z_w (y_mI m a0 0) ≤ z_w x1 then y_R sp ph d 47 12 [some (y_bo 0 0 a0), some (y_bi x1), some (y_bi x2), some (y_bi x3), none, none, none] [] m else y_R sp ph d 47 13 [some (y_bo 0 0 a0), some (y_bi x1), some (y_bi x2), some (y_bi x3), none, none, none] [y_bi 0] m := (y_R_eq (md := z_md_47) rfl rfl).trans rfl
set_option maxRecDepth 4000 in
theorem y_E_47_12 (d : Nat) (a0 : Nat) (x1 : Int) (x2 : Int) (x3 : Int) (m : y_m) : y_R sp ph d 47 12 [some (y_bo 0 0 a0), some (y_bi x1), some (y_bi x2), some (y_bi x3), none, none, none] [] m = y_R sp ph d 47 13 [some (y_bo 0 0 a0), some (y_bi x1), some (y_bi x2), some (y_bi x3), none, none, none] [y_bi 1] m := (y_R_eq (md := z_md_47) rfl rfl).trans rfl
set_option maxRecDepth 4000 in
theorem y_E_47_13 (d : Nat) (a0 : Nat) (x1 : Int) (x2 : Int) (x3 : Int) (xs0 : Int) (m : y_m) : y_R sp ph d 47 13 [some (y_bo 0 0 a0), some (y_bi x1), some (y_bi x2), some (y_bi x3), none, none, none] [y_bi xs0] m = if z_w x3 = 0 then y_R sp ph d 47 37 [some (y_bo 0 0 a0), none, some (y_bi x2), none, some (y_bi xs0), some (y_bi (x1 - (xs0 * (y_mI m a0 0)))), none] [] m else y_R sp ph d 47 39 [some (y_bo 0 0 a0), none, some (y_bi x2), none, none, some (y_bi (x1 - (xs0 * (y_mI m a0 0)))), none] [y_bi (1 - xs0)] m := (y_R_eq (md := z_md_47) rfl rfl).trans rfl
set_option maxRecDepth 4000 in
theorem y_E_47_37 (d : Nat) (a0 : Nat) (x2 : Int) (x4 : Int) (x5 : Int) (m : y_m) : y_R sp ph d 47 37 [some (y_bo 0 0 a0), none, some (y_bi x2), none, some (y_bi x4), some (y_bi x5), none] [] m = y_R sp ph d 47 39 [some (y_bo 0 0 a0), none, some (y_bi x2), none, none, some (y_bi x5), none] [y_bi x4] m := (y_R_eq (md := z_md_47) rfl rfl).trans rfl
set_option maxRecDepth 4000 in
theorem y_E_47_39 (d : Nat) (a0 : Nat) (x2 : Int) (x5 : Int) (xs0 : Int) (m : y_m) : y_R sp ph d 47 39 [some (y_bo 0 0 a0), none, some (y_bi x2), none, none, some (y_bi x5), none] [y_bi xs0] m = if z_w x2 = 0 then y_R sp ph d 47 64 [none, none, none, none, none, some (y_bi x5), none] [y_bi (xs0 * (y_mI m a0 0))] m else y_R sp ph d 47 66 [none, none, none, none, none, none, none] [y_bi (((y_mI m a0 0) - 1) - x5), y_bi (xs0 * (y_mI m a0 0))] m := (y_R_eq (md := z_md_47) rfl rfl).trans rfl
set_option maxRecDepth 4000 in
theorem y_E_47_64 (d : Nat) (x5 : Int) (xs0 : Int) (m : y_m) : y_R sp ph d 47 64 [none, none, none, none, none, some (y_bi x5), none] [y_bi xs0] m = y_R sp ph d 47 66 [none, none, none, none, none, none, none] [y_bi x5, y_bi xs0] m := (y_R_eq (md := z_md_47) rfl rfl).trans rfl
set_option maxRecDepth 4000 in
theorem y_E_47_66 (d : Nat) (xs0 : Int) (xs1 : Int) (m : y_m) : y_R sp ph d 47 66 [none, none, none, none, none, none, none] [y_bi xs0, y_bi xs1] m = y_rI (xs1 + xs0) m := (y_R_eq (md := z_md_47) rfl rfl).trans rfl
set_option maxRecDepth 4000 in
theorem y_C_47 (d : Nat) (a0 : Nat) (x1 : Int) (x2 : Int) (x3 : Int) (m : y_m) : y_V sp ph (d + 1) 47 [y_bo 0 0 a0, y_bi x1, y_bi x2, y_bi x3] m = y_R sp ph d 47 0 [some (y_bo 0 0 a0), some (y_bi x1), some (y_bi x2), some (y_bi x3), none, none, none] [] m := (y_V_eq (md := z_md_47) rfl rfl rfl).trans rfl
/-! LacedHoles$Roots.measureFor (II)V -/
set_option maxRecDepth 4000 in
theorem y_E_49_0 (d : Nat) (a0 : Nat) (x1 : Int) (x2 : Int) (m : y_m) : y_R sp ph d 49 0 [some (y_bo 4 0 a0), some (y_bi x1), some (y_bi x2), none, none, none] [] m = y_R sp ph d 49 7 [some (y_bo 4 0 a0), some (y_bi x1), none, some (y_bi 0), none, none] [] (y_sI m a0 2 x2) := (y_R_eq (md := z_md_49) rfl rfl).trans rfl
set_option maxRecDepth 4000 in
theorem y_E_49_7 (d : Nat) (a0 : Nat) (x1 : Int) (x3 : Int) (m : y_m) : y_R sp ph d 49 7 [some (y_bo 4 0 a0), some (y_bi x1), none, some (y_bi x3), none, none] [] m = if 6 ≤ z_w x3 then y_R sp ph d 49 47 [none, none, none, none, none, none] [] m else y_bV (y_V sp ph d 50 [y_bo 4 0 a0, y_bi x3, y_bl (z_w x1), y_bl (((z_w x1) * (z_w x1)) + (((z_w x3) * (z_w (y_mI m a0 2))) * ((z_w x3) * (z_w (y_mI m a0 2)))))] m) (fun m1 => y_R sp ph d 49 7 [some (y_bo 4 0 a0), some (y_bi x1), none, some (y_bi (x3 + 1)), none, none] [] m1) (fun e m1 => y_px e m1) := by
  rw [y_R_eq (md := z_md_49) rfl rfl]
  exact (y_ic rfl (y_bVc fun m1 => (y_sh (L' := [some (y_bo 4 0 a0), some (y_bi x1), none, some (y_bi x3), some (y_bl ((z_w x3) * (z_w (y_mI m a0 2)))), none]) (S' := []) rfl rfl rfl)))
set_option maxRecDepth 4000 in
theorem y_E_49_47 (d : Nat) (m : y_m) : y_R sp ph d 49 47 [none, none, none, none, none, none] [] m = y_rV m := (y_R_eq (md := z_md_49) rfl rfl).trans rfl
set_option maxRecDepth 4000 in
theorem y_C_49 (d : Nat) (a0 : Nat) (x1 : Int) (x2 : Int) (m : y_m) : y_V sp ph (d + 1) 49 [y_bo 4 0 a0, y_bi x1, y_bi x2] m = y_R sp ph d 49 0 [some (y_bo 4 0 a0), some (y_bi x1), some (y_bi x2), none, none, none] [] m := (y_V_eq (md := z_md_49) rfl rfl rfl).trans rfl
/-! LacedHoles$Roots.measureAcross (IJJ)V -/
set_option maxRecDepth 4000 in
theorem y_E_50_0 (d : Nat) (a0 : Nat) (x1 : Int) (x2 : Int) (x4 : Int) (m : y_m) : y_R sp ph d 50 0 [some (y_bo 4 0 a0), some (y_bi x1), some (y_bl x2), none, some (y_bl x4), none, none, none, none, none, none, none, none] [] m = y_R sp ph d 50 10 [some (y_bo 4 0 a0), some (y_bi x1), some (y_bl x2), none, some (y_bl x4), none, some (y_bl 0), none, some (y_bl 0), none, some (y_bi 8), none, none] [] m := (y_R_eq (md := z_md_50) rfl rfl).trans rfl
set_option maxRecDepth 4000 in
theorem y_E_50_10 (d : Nat) (a0 : Nat) (x1 : Int) (x2 : Int) (x4 : Int) (x6 : Int) (x8 : Int) (x10 : Int) (m : y_m) : y_R sp ph d 50 10 [some (y_bo 4 0 a0), some (y_bi x1), some (y_bl x2), none, some (y_bl x4), none, some (y_bl x6), none, some (y_bl x8), none, some (y_bi x10), none, none] [] m = if z_w x10 < (-48) then y_R sp ph d 50 91 [some (y_bo 4 0 a0), some (y_bi x1), some (y_bl x2), none, some (y_bl x4), none, some (y_bl x6), none, some (y_bl x8), none, none, none, none] [] m else if z_w x10 < 0 then y_R sp ph d 50 52 [some (y_bo 4 0 a0), some (y_bi x1), some (y_bl x2), none, some (y_bl x4), none, some (y_bl x6), none, none, none, some (y_bi x10), some (y_bl ((x6 * 4) + 1)), none] [y_bl (x8 * 4)] m else y_R sp ph d 50 53 [some (y_bo 4 0 a0), some (y_bi x1), some (y_bl x2), none, some (y_bl x4), none, some (y_bl x6), none, none, none, some (y_bi x10), some (y_bl ((x6 * 4) + 1)), none] [y_bl (z_land (z_lshr x4 (2 * x10)) 3), y_bl (x8 * 4)] m := (y_R_eq (md := z_md_50) rfl rfl).trans rfl
set_option maxRecDepth 4000 in
theorem y_E_50_52 (d : Nat) (a0 : Nat) (x1 : Int) (x2 : Int) (x4 : Int) (x6 : Int) (x10 : Int) (x11 : Int) (xs0 : Int) (m : y_m) : y_R sp ph d 50 52 [some (y_bo 4 0 a0), some (y_bi x1), some (y_bl x2), none, some (y_bl x4), none, some (y_bl x6), none, none, none, some (y_bi x10), some (y_bl x11), none] [y_bl xs0] m = y_R sp ph d 50 53 [some (y_bo 4 0 a0), some (y_bi x1), some (y_bl x2), none, some (y_bl x4), none, some (y_bl x6), none, none, none, some (y_bi x10), some (y_bl x11), none] [y_bl 0, y_bl xs0] m := (y_R_eq (md := z_md_50) rfl rfl).trans rfl
set_option maxRecDepth 4000 in
theorem y_E_50_53 (d : Nat) (a0 : Nat) (x1 : Int) (x2 : Int) (x4 : Int) (x6 : Int) (x10 : Int) (x11 : Int) (xs0 : Int) (xs1 : Int) (m : y_m) : y_R sp ph d 50 53 [some (y_bo 4 0 a0), some (y_bi x1), some (y_bl x2), none, some (y_bl x4), none, some (y_bl x6), none, none, none, some (y_bi x10), some (y_bl x11), none] [y_bl xs0, y_bl xs1] m = if z_w (z_lcmp (xs1 + xs0) x11) < 0 then y_R sp ph d 50 85 [some (y_bo 4 0 a0), some (y_bi x1), some (y_bl x2), none, some (y_bl x4), none, some (y_bl (x6 * 2)), none, some (y_bl (xs1 + xs0)), none, some (y_bi x10), none, none] [] m else y_R sp ph d 50 85 [some (y_bo 4 0 a0), some (y_bi x1), some (y_bl x2), none, some (y_bl x4), none, some (y_bl ((x6 * 2) + 1)), none, some (y_bl ((xs1 + xs0) - x11)), none, some (y_bi x10), none, none] [] m := (y_R_eq (md := z_md_50) rfl rfl).trans rfl
set_option maxRecDepth 4000 in
theorem y_E_50_85 (d : Nat) (a0 : Nat) (x1 : Int) (x2 : Int) (x4 : Int) (x6 : Int) (x8 : Int) (x10 : Int) (m : y_m) : y_R sp ph d 50 85 [some (y_bo 4 0 a0), some (y_bi x1), some (y_bl x2), none, some (y_bl x4), none, some (y_bl x6), none, some (y_bl x8), none, some (y_bi x10), none, none] [] m = y_R sp ph d 50 10 [some (y_bo 4 0 a0), some (y_bi x1), some (y_bl x2), none, some (y_bl x4), none, some (y_bl x6), none, some (y_bl x8), none, some (y_bi (x10 + (-1))), none, none] [] m := (y_R_eq (md := z_md_50) rfl rfl).trans rfl
set_option maxRecDepth 4000 in
theorem y_E_50_91 (d : Nat) (a0 : Nat) (x1 : Int) (x2 : Int) (x4 : Int) (x6 : Int) (x8 : Int) (m : y_m) : y_R sp ph d 50 91 [some (y_bo 4 0 a0), some (y_bi x1), some (y_bl x2), none, some (y_bl x4), none, some (y_bl x6), none, some (y_bl x8), none, none, none, none] [] m = y_bV (y_V sp ph d 10 [y_bo 101 6 4, y_bi x1, y_bl x6] m) (fun m1 => y_bL (y_V sp ph d 51 [y_bl x6, y_bl x8, y_bl x2, y_bl x4] m1) (fun v2 m2 => y_bV (y_V sp ph d 10 [y_bo 101 6 5, y_bi x1, y_bl v2] m2) (fun m3 => y_rV m3) (fun e m1 => y_px e m1)) (fun e m1 => y_px e m1)) (fun e m1 => y_px e m1) := by
  rw [y_R_eq (md := z_md_50) rfl rfl]
  exact (y_bVc fun m1 => (y_sh (L' := [some (y_bo 4 0 a0), some (y_bi x1), some (y_bl x2), none, some (y_bl x4), none, some (y_bl x6), none, some (y_bl x8), none, none, none, none]) (S' := []) rfl rfl (y_bLc fun v2 m2 => (y_sh (L' := [some (y_bo 4 0 a0), some (y_bi x1), some (y_bl x2), none, some (y_bl x4), none, some (y_bl x6), none, some (y_bl x8), none, none, none, none]) (S' := [y_bl v2, y_bi x1, y_bo 101 6 5]) rfl rfl (y_bVc fun m3 => (y_sh (L' := [some (y_bo 4 0 a0), some (y_bi x1), some (y_bl x2), none, some (y_bl x4), none, some (y_bl x6), none, some (y_bl x8), none, none, none, none]) (S' := []) rfl rfl rfl))))))
set_option maxRecDepth 4000 in
theorem y_C_50 (d : Nat) (a0 : Nat) (x1 : Int) (x2 : Int) (x4 : Int) (m : y_m) : y_V sp ph (d + 1) 50 [y_bo 4 0 a0, y_bi x1, y_bl x2, y_bl x4] m = y_R sp ph d 50 0 [some (y_bo 4 0 a0), some (y_bi x1), some (y_bl x2), none, some (y_bl x4), none, none, none, none, none, none, none, none] [] m := (y_V_eq (md := z_md_50) rfl rfl rfl).trans rfl
/-! LacedHoles$Roots.pullByRoot (JJJJ)J -/
set_option maxRecDepth 4000 in
theorem y_E_51_0 (d : Nat) (x0 : Int) (x2 : Int) (x4 : Int) (x6 : Int) (m : y_m) : y_R sp ph d 51 0 [some (y_bl x0), none, some (y_bl x2), none, some (y_bl x4), none, some (y_bl x6), none, none, none, none, none, none, none, none] [] m = if 0 ≤ z_w (z_lcmp x6 1) then y_R sp ph d 51 9 [some (y_bl x0), none, some (y_bl x2), none, some (y_bl x4), none, some (y_bl x6), none, none, none, none, none, none, none, none] [] m else y_rL 0 m := (y_R_eq (md := z_md_51) rfl rfl).trans rfl
set_option maxRecDepth 4000 in
theorem y_E_51_9 (d : Nat) (x0 : Int) (x2 : Int) (x4 : Int) (x6 : Int) (m : y_m) : y_R sp ph d 51 9 [some (y_bl x0), none, some (y_bl x2), none, some (y_bl x4), none, some (y_bl x6), none, none, none, none, none, none, none, none] [] m = y_R sp ph d 51 18 [some (y_bl x0), none, none, none, some (y_bl x4), none, some (y_bl x6), none, some (y_bl 0), none, some (y_bl x2), none, some (y_bi 0), none, none] [] m := (y_R_eq (md := z_md_51) rfl rfl).trans rfl
set_option maxRecDepth 4000 in
theorem y_E_51_18 (d : Nat) (x0 : Int) (x4 : Int) (x6 : Int) (x8 : Int) (x10 : Int) (x12 : Int) (m : y_m) : y_R sp ph d 51 18 [some (y_bl x0), none, none, none, some (y_bl x4), none, some (y_bl x6), none, some (y_bl x8), none, some (y_bl x10), none, some (y_bi x12), none, none] [] m = if 16 ≤ z_w x12 then y_R sp ph d 51 74 [some (y_bl x0), none, none, none, some (y_bl x4), none, some (y_bl x6), none, some (y_bl x8), none, none, none, none, none, none] [] m else if z_w (z_lcmp (x10 * 2) (2 * x0)) < 0 then y_R sp ph d 51 68 [some (y_bl x0), none, none, none, some (y_bl x4), none, some (y_bl x6), none, some (y_bl (x8 * 2)), none, some (y_bl (x10 * 2)), none, some (y_bi x12), none, none] [] m else y_R sp ph d 51 68 [some (y_bl x0), none, none, none, some (y_bl x4), none, some (y_bl x6), none, some (y_bl ((x8 * 2) + 1)), none, some (y_bl ((x10 * 2) - (2 * x0))), none, some (y_bi x12), none, none] [] m := (y_R_eq (md := z_md_51) rfl rfl).trans rfl
set_option maxRecDepth 4000 in
theorem y_E_51_68 (d : Nat) (x0 : Int) (x4 : Int) (x6 : Int) (x8 : Int) (x10 : Int) (x12 : Int) (m : y_m) : y_R sp ph d 51 68 [some (y_bl x0), none, none, none, some (y_bl x4), none, some (y_bl x6), none, some (y_bl x8), none, some (y_bl x10), none, some (y_bi x12), none, none] [] m = y_R sp ph d 51 18 [some (y_bl x0), none, none, none, some (y_bl x4), none, some (y_bl x6), none, some (y_bl x8), none, some (y_bl x10), none, some (y_bi (x12 + 1)), none, none] [] m := (y_R_eq (md := z_md_51) rfl rfl).trans rfl
set_option maxRecDepth 4000 in
theorem y_E_51_74 (d : Nat) (x0 : Int) (x4 : Int) (x6 : Int) (x8 : Int) (m : y_m) : y_R sp ph d 51 74 [some (y_bl x0), none, none, none, some (y_bl x4), none, some (y_bl x6), none, some (y_bl x8), none, none, none, none, none, none] [] m = y_g (z_wl x6 ≠ 0) (y_g (z_wl x6 ≠ 0) (y_g (z_wl x6 ≠ 0) (y_rL ((z_lshl (x4 * (z_ldiv x0 x6)) 10) + (z_ldiv ((z_lshl (x4 * (z_lrem x0 x6)) 10) + (z_lshr (x4 * x8) (16 - 10))) x6)) m))) := (y_R_eq (md := z_md_51) rfl rfl).trans rfl
set_option maxRecDepth 4000 in
theorem y_C_51 (d : Nat) (x0 : Int) (x2 : Int) (x4 : Int) (x6 : Int) (m : y_m) : y_V sp ph (d + 1) 51 [y_bl x0, y_bl x2, y_bl x4, y_bl x6] m = y_R sp ph d 51 0 [some (y_bl x0), none, some (y_bl x2), none, some (y_bl x4), none, some (y_bl x6), none, none, none, none, none, none, none, none] [] m := (y_V_eq (md := z_md_51) rfl rfl rfl).trans rfl
/-! LacedHoles$Roots.lengthOf (LLacedHoles$Boot;II)J -/
set_option maxRecDepth 4000 in
theorem y_E_52_0 (d : Nat) (a0 : Nat) (a1 : Nat) (x2 : Int) (x3 : Int) (m : y_m) : y_R sp ph d 52 0 [some (y_bo 4 0 a0), some (y_bo 0 0 a1), some (y_bi x2), some (y_bi x3), none] [] m = y_bI (y_V sp ph d 44 [y_bo 0 0 a1, y_bi x2] m) (fun v1 m1 => y_bI (y_V sp ph d 44 [y_bo 0 0 a1, y_bi x3] m1) (fun v2 m2 => y_bI (y_V sp ph d 3 [y_bi (v1 - v2)] m2) (fun v3 m3 => y_bI (y_V sp ph d 45 [y_bo 0 0 a1, y_bi x2, y_bi x3] m3) (fun v4 m4 => if ¬ z_w v4 = 0 then y_R sp ph d 52 38 [some (y_bo 4 0 a0), none, none, none, some (y_bi v3)] [] m4 else y_rL (z_lshl ((z_w v3) * (z_w (y_mI m4 a0 2))) 48) m4) (fun e m1 => y_px e m1)) (fun e m1 => y_px e m1)) (fun e m1 => y_px e m1)) (fun e m1 => y_px e m1) := by
  rw [y_R_eq (md := z_md_52) rfl rfl]
  exact (y_bIc fun v1 m1 => (y_sh (L' := [some (y_bo 4 0 a0), some (y_bo 0 0 a1), some (y_bi x2), some (y_bi x3), none]) (S' := [y_bi v1]) rfl rfl (y_bIc fun v2 m2 => (y_sh (L' := [some (y_bo 4 0 a0), some (y_bo 0 0 a1), some (y_bi x2), some (y_bi x3), none]) (S' := [y_bi v2, y_bi v1]) rfl rfl (y_bIc fun v3 m3 => (y_sh (L' := [some (y_bo 4 0 a0), some (y_bo 0 0 a1), some (y_bi x2), some (y_bi x3), none]) (S' := [y_bi v3]) rfl rfl (y_bIc fun v4 m4 => (y_sh (L' := [some (y_bo 4 0 a0), some (y_bo 0 0 a1), some (y_bi x2), some (y_bi x3), some (y_bi v3)]) (S' := [y_bi v4]) rfl rfl rfl))))))))
set_option maxRecDepth 4000 in
theorem y_E_52_38 (d : Nat) (a0 : Nat) (x4 : Int) (m : y_m) : y_R sp ph d 52 38 [some (y_bo 4 0 a0), none, none, none, some (y_bi x4)] [] m = y_bL (y_V sp ph d 9 [y_bo 101 6 4, y_bi x4] m) (fun v1 m1 => y_rL v1 m1) (fun e m1 => y_px e m1) := by
  rw [y_R_eq (md := z_md_52) rfl rfl]
  exact (y_bLc fun v1 m1 => (y_sh (L' := [some (y_bo 4 0 a0), none, none, none, some (y_bi x4)]) (S' := [y_bl v1]) rfl rfl rfl))
set_option maxRecDepth 4000 in
theorem y_C_52 (d : Nat) (a0 : Nat) (a1 : Nat) (x2 : Int) (x3 : Int) (m : y_m) : y_V sp ph (d + 1) 52 [y_bo 4 0 a0, y_bo 0 0 a1, y_bi x2, y_bi x3] m = y_R sp ph d 52 0 [some (y_bo 4 0 a0), some (y_bo 0 0 a1), some (y_bi x2), some (y_bi x3), none] [] m := (y_V_eq (md := z_md_52) rfl rfl rfl).trans rfl
/-! LacedHoles$Roots.pullOf (LLacedHoles$Boot;II)J -/
set_option maxRecDepth 4000 in
theorem y_E_53_0 (d : Nat) (a0 : Nat) (a1 : Nat) (x2 : Int) (x3 : Int) (m : y_m) : y_R sp ph d 53 0 [some (y_bo 4 0 a0), some (y_bo 0 0 a1), some (y_bi x2), some (y_bi x3), none] [] m = y_bI (y_V sp ph d 44 [y_bo 0 0 a1, y_bi x2] m) (fun v1 m1 => y_bI (y_V sp ph d 44 [y_bo 0 0 a1, y_bi x3] m1) (fun v2 m2 => y_bI (y_V sp ph d 3 [y_bi (v1 - v2)] m2) (fun v3 m3 => y_bI (y_V sp ph d 45 [y_bo 0 0 a1, y_bi x2, y_bi x3] m3) (fun v4 m4 => if ¬ z_w v4 = 0 then y_R sp ph d 53 29 [some (y_bo 4 0 a0), none, none, none, some (y_bi v3)] [] m4 else y_R sp ph d 53 38 [none, none, none, none, none] [y_bl 0] m4) (fun e m1 => y_px e m1)) (fun e m1 => y_px e m1)) (fun e m1 => y_px e m1)) (fun e m1 => y_px e m1) := by
  rw [y_R_eq (md := z_md_53) rfl rfl]
  exact (y_bIc fun v1 m1 => (y_sh (L' := [some (y_bo 4 0 a0), some (y_bo 0 0 a1), some (y_bi x2), some (y_bi x3), none]) (S' := [y_bi v1]) rfl rfl (y_bIc fun v2 m2 => (y_sh (L' := [some (y_bo 4 0 a0), some (y_bo 0 0 a1), some (y_bi x2), some (y_bi x3), none]) (S' := [y_bi v2, y_bi v1]) rfl rfl (y_bIc fun v3 m3 => (y_sh (L' := [some (y_bo 4 0 a0), some (y_bo 0 0 a1), some (y_bi x2), some (y_bi x3), none]) (S' := [y_bi v3]) rfl rfl (y_bIc fun v4 m4 => (y_sh (L' := [some (y_bo 4 0 a0), some (y_bo 0 0 a1), some (y_bi x2), some (y_bi x3), some (y_bi v3)]) (S' := [y_bi v4]) rfl rfl rfl))))))))
set_option maxRecDepth 4000 in
theorem y_E_53_29 (d : Nat) (a0 : Nat) (x4 : Int) (m : y_m) : y_R sp ph d 53 29 [some (y_bo 4 0 a0), none, none, none, some (y_bi x4)] [] m = y_bL (y_V sp ph d 9 [y_bo 101 6 5, y_bi x4] m) (fun v1 m1 => y_R sp ph d 53 38 [none, none, none, none, none] [y_bl v1] m1) (fun e m1 => y_px e m1) := by
  rw [y_R_eq (md := z_md_53) rfl rfl]
  exact (y_bLc fun v1 m1 => (y_sh (L' := [some (y_bo 4 0 a0), none, none, none, some (y_bi x4)]) (S' := [y_bl v1]) rfl rfl rfl))
set_option maxRecDepth 4000 in
theorem y_E_53_38 (d : Nat) (xs0 : Int) (m : y_m) : y_R sp ph d 53 38 [none, none, none, none, none] [y_bl xs0] m = y_rL xs0 m := (y_R_eq (md := z_md_53) rfl rfl).trans rfl
set_option maxRecDepth 4000 in
theorem y_C_53 (d : Nat) (a0 : Nat) (a1 : Nat) (x2 : Int) (x3 : Int) (m : y_m) : y_V sp ph (d + 1) 53 [y_bo 4 0 a0, y_bo 0 0 a1, y_bi x2, y_bi x3] m = y_R sp ph d 53 0 [some (y_bo 4 0 a0), some (y_bo 0 0 a1), some (y_bi x2), some (y_bi x3), none] [] m := (y_V_eq (md := z_md_53) rfl rfl rfl).trans rfl
/-! LacedHoles$Roots.lengthAlong (LLacedHoles$Boot;LLacedHoles$Way;)J -/
set_option maxRecDepth 4000 in
theorem y_E_54_0 (d : Nat) (a0 : Nat) (a1 : Nat) (a2 : Nat) (m : y_m) : y_R sp ph d 54 0 [some (y_bo 4 0 a0), some (y_bo 0 0 a1), some (y_bo 8 0 a2), none, none, none] [] m = y_R sp ph d 54 5 [some (y_bo 4 0 a0), some (y_bo 0 0 a1), some (y_bo 8 0 a2), some (y_bl 0), none, some (y_bi 0)] [] m := (y_R_eq (md := z_md_54) rfl rfl).trans rfl
set_option maxRecDepth 4000 in
theorem y_E_54_5 (d : Nat) (a0 : Nat) (a1 : Nat) (a2 : Nat) (x3 : Int) (x5 : Int) (m : y_m) : y_R sp ph d 54 5 [some (y_bo 4 0 a0), some (y_bo 0 0 a1), some (y_bo 8 0 a2), some (y_bl x3), none, some (y_bi x5)] [] m = if z_w (y_mI m a2 1) ≤ z_w x5 then y_R sp ph d 54 42 [none, none, none, some (y_bl x3), none, none] [] m else y_bI (y_V sp ph d 65 [y_bo 8 0 a2, y_bi x5] m) (fun v1 m1 => y_bI (y_V sp ph d 65 [y_bo 8 0 a2, y_bi (x5 + 1)] m1) (fun v2 m2 => y_bL (y_V sp ph d 52 [y_bo 4 0 a0, y_bo 0 0 a1, y_bi v1, y_bi v2] m2) (fun v3 m3 => y_R sp ph d 54 5 [some (y_bo 4 0 a0), some (y_bo 0 0 a1), some (y_bo 8 0 a2), some (y_bl (x3 + v3)), none, some (y_bi (x5 + 1))] [] m3) (fun e m1 => y_px e m1)) (fun e m1 => y_px e m1)) (fun e m1 => y_px e m1) := by
  rw [y_R_eq (md := z_md_54) rfl rfl]
  exact (y_ic rfl (y_bIc fun v1 m1 => (y_sh (L' := [some (y_bo 4 0 a0), some (y_bo 0 0 a1), some (y_bo 8 0 a2), some (y_bl x3), none, some (y_bi x5)]) (S' := [y_bi v1, y_bo 0 0 a1, y_bo 4 0 a0, y_bl x3]) rfl rfl (y_bIc fun v2 m2 => (y_sh (L' := [some (y_bo 4 0 a0), some (y_bo 0 0 a1), some (y_bo 8 0 a2), some (y_bl x3), none, some (y_bi x5)]) (S' := [y_bi v2, y_bi v1, y_bo 0 0 a1, y_bo 4 0 a0, y_bl x3]) rfl rfl (y_bLc fun v3 m3 => (y_sh (L' := [some (y_bo 4 0 a0), some (y_bo 0 0 a1), some (y_bo 8 0 a2), some (y_bl x3), none, some (y_bi x5)]) (S' := [y_bl v3, y_bl x3]) rfl rfl rfl)))))))
set_option maxRecDepth 4000 in
theorem y_E_54_42 (d : Nat) (x3 : Int) (m : y_m) : y_R sp ph d 54 42 [none, none, none, some (y_bl x3), none, none] [] m = y_rL x3 m := (y_R_eq (md := z_md_54) rfl rfl).trans rfl
set_option maxRecDepth 4000 in
theorem y_C_54 (d : Nat) (a0 : Nat) (a1 : Nat) (a2 : Nat) (m : y_m) : y_V sp ph (d + 1) 54 [y_bo 4 0 a0, y_bo 0 0 a1, y_bo 8 0 a2] m = y_R sp ph d 54 0 [some (y_bo 4 0 a0), some (y_bo 0 0 a1), some (y_bo 8 0 a2), none, none, none] [] m := (y_V_eq (md := z_md_54) rfl rfl rfl).trans rfl
/-! LacedHoles$Roots.pullAlong (LLacedHoles$Boot;LLacedHoles$Way;)J -/
set_option maxRecDepth 4000 in
theorem y_E_55_0 (d : Nat) (a0 : Nat) (a1 : Nat) (a2 : Nat) (m : y_m) : y_R sp ph d 55 0 [some (y_bo 4 0 a0), some (y_bo 0 0 a1), some (y_bo 8 0 a2), none, none, none] [] m = y_R sp ph d 55 5 [some (y_bo 4 0 a0), some (y_bo 0 0 a1), some (y_bo 8 0 a2), some (y_bl 0), none, some (y_bi 0)] [] m := (y_R_eq (md := z_md_55) rfl rfl).trans rfl
set_option maxRecDepth 4000 in
theorem y_E_55_5 (d : Nat) (a0 : Nat) (a1 : Nat) (a2 : Nat) (x3 : Int) (x5 : Int) (m : y_m) : y_R sp ph d 55 5 [some (y_bo 4 0 a0), some (y_bo 0 0 a1), some (y_bo 8 0 a2), some (y_bl x3), none, some (y_bi x5)] [] m = if z_w (y_mI m a2 1) ≤ z_w x5 then y_R sp ph d 55 42 [none, none, none, some (y_bl x3), none, none] [] m else y_bI (y_V sp ph d 65 [y_bo 8 0 a2, y_bi x5] m) (fun v1 m1 => y_bI (y_V sp ph d 65 [y_bo 8 0 a2, y_bi (x5 + 1)] m1) (fun v2 m2 => y_bL (y_V sp ph d 53 [y_bo 4 0 a0, y_bo 0 0 a1, y_bi v1, y_bi v2] m2) (fun v3 m3 => y_R sp ph d 55 5 [some (y_bo 4 0 a0), some (y_bo 0 0 a1), some (y_bo 8 0 a2), some (y_bl (x3 + v3)), none, some (y_bi (x5 + 1))] [] m3) (fun e m1 => y_px e m1)) (fun e m1 => y_px e m1)) (fun e m1 => y_px e m1) := by
  rw [y_R_eq (md := z_md_55) rfl rfl]
  exact (y_ic rfl (y_bIc fun v1 m1 => (y_sh (L' := [some (y_bo 4 0 a0), some (y_bo 0 0 a1), some (y_bo 8 0 a2), some (y_bl x3), none, some (y_bi x5)]) (S' := [y_bi v1, y_bo 0 0 a1, y_bo 4 0 a0, y_bl x3]) rfl rfl (y_bIc fun v2 m2 => (y_sh (L' := [some (y_bo 4 0 a0), some (y_bo 0 0 a1), some (y_bo 8 0 a2), some (y_bl x3), none, some (y_bi x5)]) (S' := [y_bi v2, y_bi v1, y_bo 0 0 a1, y_bo 4 0 a0, y_bl x3]) rfl rfl (y_bLc fun v3 m3 => (y_sh (L' := [some (y_bo 4 0 a0), some (y_bo 0 0 a1), some (y_bo 8 0 a2), some (y_bl x3), none, some (y_bi x5)]) (S' := [y_bl v3, y_bl x3]) rfl rfl rfl)))))))
set_option maxRecDepth 4000 in
theorem y_E_55_42 (d : Nat) (x3 : Int) (m : y_m) : y_R sp ph d 55 42 [none, none, none, some (y_bl x3), none, none] [] m = y_rL x3 m := (y_R_eq (md := z_md_55) rfl rfl).trans rfl
set_option maxRecDepth 4000 in
theorem y_C_55 (d : Nat) (a0 : Nat) (a1 : Nat) (a2 : Nat) (m : y_m) : y_V sp ph (d + 1) 55 [y_bo 4 0 a0, y_bo 0 0 a1, y_bo 8 0 a2] m = y_R sp ph d 55 0 [some (y_bo 4 0 a0), some (y_bo 0 0 a1), some (y_bo 8 0 a2), none, none, none] [] m := (y_V_eq (md := z_md_55) rfl rfl rfl).trans rfl
/-! LacedHoles$Roots.isLess (JJ)Z -/
set_option maxRecDepth 4000 in
theorem y_E_56_0 (d : Nat) (x0 : Int) (x2 : Int) (m : y_m) : y_R sp ph d 56 0 [some (y_bl x0), none, some (y_bl x2), none] [] m = if 0 ≤ z_w (z_lcmp (x0 + 64) x2) then y_R sp ph d 56 14 [none, none, none, none] [] m else y_R sp ph d 56 15 [none, none, none, none] [y_bi 1] m := (y_R_eq (md := z_md_56) rfl rfl).trans rfl
set_option maxRecDepth 4000 in
theorem y_E_56_14 (d : Nat) (m : y_m) : y_R sp ph d 56 14 [none, none, none, none] [] m = y_R sp ph d 56 15 [none, none, none, none] [y_bi 0] m := (y_R_eq (md := z_md_56) rfl rfl).trans rfl
set_option maxRecDepth 4000 in
theorem y_E_56_15 (d : Nat) (xs0 : Int) (m : y_m) : y_R sp ph d 56 15 [none, none, none, none] [y_bi xs0] m = y_g (xs0 = 0 ∨ xs0 = 1) (y_rI xs0 m) := (y_R_eq (md := z_md_56) rfl rfl).trans rfl
set_option maxRecDepth 4000 in
theorem y_C_56 (d : Nat) (x0 : Int) (x2 : Int) (m : y_m) : y_V sp ph (d + 1) 56 [y_bl x0, y_bl x2] m = y_R sp ph d 56 0 [some (y_bl x0), none, some (y_bl x2), none] [] m := (y_V_eq (md := z_md_56) rfl rfl rfl).trans rfl
/-! LacedHoles$Roots.isWithin (JI)Z -/
set_option maxRecDepth 4000 in
theorem y_E_57_0 (d : Nat) (x0 : Int) (x2 : Int) (m : y_m) : y_R sp ph d 57 0 [some (y_bl x0), none, some (y_bi x2)] [] m = y_bI (y_V sp ph d 56 [y_bl (z_lshl (z_w x2) 48), y_bl x0] m) (fun v1 m1 => if ¬ z_w v1 = 0 then y_R sp ph d 57 16 [none, none, none] [] m1 else y_R sp ph d 57 17 [none, none, none] [y_bi 1] m1) (fun e m1 => y_px e m1) := by
  rw [y_R_eq (md := z_md_57) rfl rfl]
  exact (y_bIc fun v1 m1 => (y_sh (L' := [some (y_bl x0), none, some (y_bi x2)]) (S' := [y_bi v1]) rfl rfl rfl))
set_option maxRecDepth 4000 in
theorem y_E_57_16 (d : Nat) (m : y_m) : y_R sp ph d 57 16 [none, none, none] [] m = y_R sp ph d 57 17 [none, none, none] [y_bi 0] m := (y_R_eq (md := z_md_57) rfl rfl).trans rfl
set_option maxRecDepth 4000 in
theorem y_E_57_17 (d : Nat) (xs0 : Int) (m : y_m) : y_R sp ph d 57 17 [none, none, none] [y_bi xs0] m = y_g (xs0 = 0 ∨ xs0 = 1) (y_rI xs0 m) := (y_R_eq (md := z_md_57) rfl rfl).trans rfl
set_option maxRecDepth 4000 in
theorem y_C_57 (d : Nat) (x0 : Int) (x2 : Int) (m : y_m) : y_V sp ph (d + 1) 57 [y_bl x0, y_bi x2] m = y_R sp ph d 57 0 [some (y_bl x0), none, some (y_bi x2)] [] m := (y_V_eq (md := z_md_57) rfl rfl rfl).trans rfl
/-! LacedHoles$Roots.thousandths (J)I -/
set_option maxRecDepth 4000 in
theorem y_E_58_0 (d : Nat) (x0 : Int) (m : y_m) : y_R sp ph d 58 0 [some (y_bl x0), none, none, none, none, none] [] m = y_rI (((z_lshr (x0 + 64) 48) * 1000) + (z_lshr ((z_land (x0 + 64) 281474976710655) * 1000) 48)) m := (y_R_eq (md := z_md_58) rfl rfl).trans rfl
set_option maxRecDepth 4000 in
theorem y_C_58 (d : Nat) (x0 : Int) (m : y_m) : y_V sp ph (d + 1) 58 [y_bl x0] m = y_R sp ph d 58 0 [some (y_bl x0), none, none, none, none, none] [] m := (y_V_eq (md := z_md_58) rfl rfl rfl).trans rfl
/-! LacedHoles$Roots.millionths (J)I -/
set_option maxRecDepth 4000 in
theorem y_E_59_0 (d : Nat) (x0 : Int) (m : y_m) : y_R sp ph d 59 0 [some (y_bl x0), none, none, none, none, none, none, none, none] [] m = y_R sp ph d 59 22 [none, none, none, none, some (y_bl (z_lshr (x0 + 64) 58)), none, some (y_bl (z_land (x0 + 64) 288230376151711743)), none, some (y_bi 0)] [] m := (y_R_eq (md := z_md_59) rfl rfl).trans rfl
set_option maxRecDepth 4000 in
theorem y_E_59_22 (d : Nat) (x4 : Int) (x6 : Int) (x8 : Int) (m : y_m) : y_R sp ph d 59 22 [none, none, none, none, some (y_bl x4), none, some (y_bl x6), none, some (y_bi x8)] [] m = if 6 ≤ z_w x8 then y_R sp ph d 59 65 [none, none, none, none, some (y_bl x4), none, none, none, none] [] m else y_R sp ph d 59 22 [none, none, none, none, some (y_bl ((x4 * 10) + (z_lshr (x6 * 10) 58))), none, some (y_bl (z_land (x6 * 10) 288230376151711743)), none, some (y_bi (x8 + 1))] [] m := (y_R_eq (md := z_md_59) rfl rfl).trans rfl
set_option maxRecDepth 4000 in
theorem y_E_59_65 (d : Nat) (x4 : Int) (m : y_m) : y_R sp ph d 59 65 [none, none, none, none, some (y_bl x4), none, none, none, none] [] m = y_rI x4 m := (y_R_eq (md := z_md_59) rfl rfl).trans rfl
set_option maxRecDepth 4000 in
theorem y_C_59 (d : Nat) (x0 : Int) (m : y_m) : y_V sp ph (d + 1) 59 [y_bl x0] m = y_R sp ph d 59 0 [some (y_bl x0), none, none, none, none, none, none, none, none] [] m := (y_V_eq (md := z_md_59) rfl rfl rfl).trans rfl
/-! LacedHoles$Roots.knotSpan (LLacedHoles$Boot;LLacedHoles$Way;IZ)I -/
set_option maxRecDepth 4000 in
theorem y_E_60_0 (d : Nat) (a0 : Nat) (a1 : Nat) (a2 : Nat) (x3 : Int) (x4 : Int) (m : y_m) : y_R sp ph d 60 0 [some (y_bo 4 0 a0), some (y_bo 0 0 a1), some (y_bo 8 0 a2), some (y_bi x3), some (y_bi x4), none, none, none, none, none, none, none, none, none, none, none, none] [] m = y_bL (y_V sp ph d 54 [y_bo 4 0 a0, y_bo 0 0 a1, y_bo 8 0 a2] m) (fun v1 m1 => y_R sp ph d 60 28 [some (y_bo 4 0 a0), some (y_bo 0 0 a1), some (y_bo 8 0 a2), none, some (y_bi x4), some (y_bl v1), none, some (y_bl (z_lshl (2 * (z_w x3)) 48)), none, some (y_bl 0), none, some (y_bi (-1)), some (y_bi 0), none, none, none, none] [] m1) (fun e m1 => y_px e m1) := by
  rw [y_R_eq (md := z_md_60) rfl rfl]
  exact (y_bLc fun v1 m1 => (y_sh (L' := [some (y_bo 4 0 a0), some (y_bo 0 0 a1), some (y_bo 8 0 a2), some (y_bi x3), some (y_bi x4), none, none, none, none, none, none, none, none, none, none, none, none]) (S' := [y_bl v1]) rfl rfl rfl))
set_option maxRecDepth 4000 in
theorem y_E_60_28 (d : Nat) (a0 : Nat) (a1 : Nat) (a2 : Nat) (x4 : Int) (x5 : Int) (x7 : Int) (x9 : Int) (x11 : Int) (x12 : Int) (m : y_m) : y_R sp ph d 60 28 [some (y_bo 4 0 a0), some (y_bo 0 0 a1), some (y_bo 8 0 a2), none, some (y_bi x4), some (y_bl x5), none, some (y_bl x7), none, some (y_bl x9), none, some (y_bi x11), some (y_bi x12), none, none, none, none] [] m = if z_w (y_mI m a2 1) ≤ z_w x12 then y_R sp ph d 60 127 [none, none, none, none, none, none, none, none, none, none, none, some (y_bi x11), none, none, none, none, none] [] m else y_bI (y_V sp ph d 65 [y_bo 8 0 a2, y_bi x12] m) (fun v1 m1 => y_bI (y_V sp ph d 65 [y_bo 8 0 a2, y_bi (x12 + 1)] m1) (fun v2 m2 => y_bL (y_V sp ph d 52 [y_bo 4 0 a0, y_bo 0 0 a1, y_bi v1, y_bi v2] m2) (fun v3 m3 => y_bI (y_V sp ph d 56 [y_bl x7, y_bl (x9 - (x5 - x9))] m3) (fun v4 m4 => y_bI (y_V sp ph d 56 [y_bl ((x9 + v3) - (x5 - (x9 + v3))), y_bl (-x7)] m4) (fun v5 m5 => if ¬ z_w v4 = 0 then y_R sp ph d 60 117 [some (y_bo 4 0 a0), some (y_bo 0 0 a1), some (y_bo 8 0 a2), none, some (y_bi x4), some (y_bl x5), none, some (y_bl x7), none, none, none, some (y_bi x11), some (y_bi x12), some (y_bl (x9 + v3)), none, none, none] [] m5 else if ¬ z_w v5 = 0 then y_R sp ph d 60 117 [some (y_bo 4 0 a0), some (y_bo 0 0 a1), some (y_bo 8 0 a2), none, some (y_bi x4), some (y_bl x5), none, some (y_bl x7), none, none, none, some (y_bi x11), some (y_bi x12), some (y_bl (x9 + v3)), none, none, none] [] m5 else if ¬ z_w x4 = 0 then y_R sp ph d 60 113 [some (y_bo 4 0 a0), some (y_bo 0 0 a1), some (y_bo 8 0 a2), none, some (y_bi x4), some (y_bl x5), none, some (y_bl x7), none, none, none, none, some (y_bi x12), some (y_bl (x9 + v3)), none, none, none] [] m5 else if ¬ z_w x11 = (-1) then y_R sp ph d 60 117 [some (y_bo 4 0 a0), some (y_bo 0 0 a1), some (y_bo 8 0 a2), none, some (y_bi x4), some (y_bl x5), none, some (y_bl x7), none, none, none, some (y_bi x11), some (y_bi x12), some (y_bl (x9 + v3)), none, none, none] [] m5 else y_R sp ph d 60 113 [some (y_bo 4 0 a0), some (y_bo 0 0 a1), some (y_bo 8 0 a2), none, some (y_bi x4), some (y_bl x5), none, some (y_bl x7), none, none, none, none, some (y_bi x12), some (y_bl (x9 + v3)), none, none, none] [] m5) (fun e m1 => y_px e m1)) (fun e m1 => y_px e m1)) (fun e m1 => y_px e m1)) (fun e m1 => y_px e m1)) (fun e m1 => y_px e m1) := by
  rw [y_R_eq (md := z_md_60) rfl rfl]
  exact (y_ic rfl (y_bIc fun v1 m1 => (y_sh (L' := [some (y_bo 4 0 a0), some (y_bo 0 0 a1), some (y_bo 8 0 a2), none, some (y_bi x4), some (y_bl x5), none, some (y_bl x7), none, some (y_bl x9), none, some (y_bi x11), some (y_bi x12), none, none, none, none]) (S' := [y_bi v1, y_bo 0 0 a1, y_bo 4 0 a0, y_bl x9]) rfl rfl (y_bIc fun v2 m2 => (y_sh (L' := [some (y_bo 4 0 a0), some (y_bo 0 0 a1), some (y_bo 8 0 a2), none, some (y_bi x4), some (y_bl x5), none, some (y_bl x7), none, some (y_bl x9), none, some (y_bi x11), some (y_bi x12), none, none, none, none]) (S' := [y_bi v2, y_bi v1, y_bo 0 0 a1, y_bo 4 0 a0, y_bl x9]) rfl rfl (y_bLc fun v3 m3 => (y_sh (L' := [some (y_bo 4 0 a0), some (y_bo 0 0 a1), some (y_bo 8 0 a2), none, some (y_bi x4), some (y_bl x5), none, some (y_bl x7), none, some (y_bl x9), none, some (y_bi x11), some (y_bi x12), none, none, none, none]) (S' := [y_bl v3, y_bl x9]) rfl rfl (y_bIc fun v4 m4 => (y_sh (L' := [some (y_bo 4 0 a0), some (y_bo 0 0 a1), some (y_bo 8 0 a2), none, some (y_bi x4), some (y_bl x5), none, some (y_bl x7), none, some (y_bl x9), none, some (y_bi x11), some (y_bi x12), some (y_bl (x9 + v3)), none, none, none]) (S' := [y_bi v4]) rfl rfl (y_bIc fun v5 m5 => (y_sh (L' := [some (y_bo 4 0 a0), some (y_bo 0 0 a1), some (y_bo 8 0 a2), none, some (y_bi x4), some (y_bl x5), none, some (y_bl x7), none, some (y_bl x9), none, some (y_bi x11), some (y_bi x12), some (y_bl (x9 + v3)), none, some (y_bi v4), none]) (S' := [y_bi v5]) rfl rfl rfl)))))))))))
set_option maxRecDepth 4000 in
theorem y_E_60_113 (d : Nat) (a0 : Nat) (a1 : Nat) (a2 : Nat) (x4 : Int) (x5 : Int) (x7 : Int) (x12 : Int) (x13 : Int) (m : y_m) : y_R sp ph d 60 113 [some (y_bo 4 0 a0), some (y_bo 0 0 a1), some (y_bo 8 0 a2), none, some (y_bi x4), some (y_bl x5), none, some (y_bl x7), none, none, none, none, some (y_bi x12), some (y_bl x13), none, none, none] [] m = y_R sp ph d 60 117 [some (y_bo 4 0 a0), some (y_bo 0 0 a1), some (y_bo 8 0 a2), none, some (y_bi x4), some (y_bl x5), none, some (y_bl x7), none, none, none, some (y_bi x12), some (y_bi x12), some (y_bl x13), none, none, none] [] m := (y_R_eq (md := z_md_60) rfl rfl).trans rfl
set_option maxRecDepth 4000 in
theorem y_E_60_117 (d : Nat) (a0 : Nat) (a1 : Nat) (a2 : Nat) (x4 : Int) (x5 : Int) (x7 : Int) (x11 : Int) (x12 : Int) (x13 : Int) (m : y_m) : y_R sp ph d 60 117 [some (y_bo 4 0 a0), some (y_bo 0 0 a1), some (y_bo 8 0 a2), none, some (y_bi x4), some (y_bl x5), none, some (y_bl x7), none, none, none, some (y_bi x11), some (y_bi x12), some (y_bl x13), none, none, none] [] m = y_R sp ph d 60 28 [some (y_bo 4 0 a0), some (y_bo 0 0 a1), some (y_bo 8 0 a2), none, some (y_bi x4), some (y_bl x5), none, some (y_bl x7), none, some (y_bl x13), none, some (y_bi x11), some (y_bi (x12 + 1)), none, none, none, none] [] m := (y_R_eq (md := z_md_60) rfl rfl).trans rfl
set_option maxRecDepth 4000 in
theorem y_E_60_127 (d : Nat) (x11 : Int) (m : y_m) : y_R sp ph d 60 127 [none, none, none, none, none, none, none, none, none, none, none, some (y_bi x11), none, none, none, none, none] [] m = y_rI x11 m := (y_R_eq (md := z_md_60) rfl rfl).trans rfl
set_option maxRecDepth 4000 in
theorem y_C_60 (d : Nat) (a0 : Nat) (a1 : Nat) (a2 : Nat) (x3 : Int) (x4 : Int) (m : y_m) : y_V sp ph (d + 1) 60 [y_bo 4 0 a0, y_bo 0 0 a1, y_bo 8 0 a2, y_bi x3, y_bi x4] m = y_R sp ph d 60 0 [some (y_bo 4 0 a0), some (y_bo 0 0 a1), some (y_bo 8 0 a2), some (y_bi x3), some (y_bi x4), none, none, none, none, none, none, none, none, none, none, none, none] [] m := (y_V_eq (md := z_md_60) rfl rfl rfl).trans rfl
/-! LacedHoles$Way.clear ()V -/
set_option maxRecDepth 4000 in
theorem y_E_62_0 (d : Nat) (a0 : Nat) (m : y_m) : y_R sp ph d 62 0 [some (y_bo 8 0 a0)] [] m = y_rV (y_sI m a0 1 0) := (y_R_eq (md := z_md_62) rfl rfl).trans rfl
set_option maxRecDepth 4000 in
theorem y_C_62 (d : Nat) (a0 : Nat) (m : y_m) : y_V sp ph (d + 1) 62 [y_bo 8 0 a0] m = y_R sp ph d 62 0 [some (y_bo 8 0 a0)] [] m := (y_V_eq (md := z_md_62) rfl rfl rfl).trans rfl
/-! LacedHoles$Way.add (I)V -/
set_option maxRecDepth 4000 in
theorem y_E_63_0 (d : Nat) (a0 : Nat) (x1 : Int) (m : y_m) : y_R sp ph d 63 0 [some (y_bo 8 0 a0), some (y_bi x1)] [] m = if 12 ≤ z_w (y_mI m a0 1) then y_R sp ph d 63 31 [none, none] [] m else y_bV (y_V sp ph d 8 [y_bo 100 12 (a0 + 1), y_bi (y_mI m a0 1), y_bi x1] m) (fun m1 => y_R sp ph d 63 31 [none, none] [] (y_sI m1 a0 1 ((y_mI m1 a0 1) + 1))) (fun e m1 => y_px e m1) := by
  rw [y_R_eq (md := z_md_63) rfl rfl]
  exact (y_ic rfl (y_bVc fun m1 => (y_sh (L' := [some (y_bo 8 0 a0), some (y_bi x1)]) (S' := []) rfl rfl rfl)))
set_option maxRecDepth 4000 in
theorem y_E_63_31 (d : Nat) (m : y_m) : y_R sp ph d 63 31 [none, none] [] m = y_rV m := (y_R_eq (md := z_md_63) rfl rfl).trans rfl
set_option maxRecDepth 4000 in
theorem y_C_63 (d : Nat) (a0 : Nat) (x1 : Int) (m : y_m) : y_V sp ph (d + 1) 63 [y_bo 8 0 a0, y_bi x1] m = y_R sp ph d 63 0 [some (y_bo 8 0 a0), some (y_bi x1)] [] m := (y_V_eq (md := z_md_63) rfl rfl rfl).trans rfl
/-! LacedHoles$Way.become (LLacedHoles$Way;)V -/
set_option maxRecDepth 4000 in
theorem y_E_64_0 (d : Nat) (a0 : Nat) (a1 : Nat) (m : y_m) : y_R sp ph d 64 0 [some (y_bo 8 0 a0), some (y_bo 8 0 a1), none] [] m = y_R sp ph d 64 10 [some (y_bo 8 0 a0), some (y_bo 8 0 a1), some (y_bi 0)] [] (y_sI m a0 1 (y_mI m a1 1)) := (y_R_eq (md := z_md_64) rfl rfl).trans rfl
set_option maxRecDepth 4000 in
theorem y_E_64_10 (d : Nat) (a0 : Nat) (a1 : Nat) (x2 : Int) (m : y_m) : y_R sp ph d 64 10 [some (y_bo 8 0 a0), some (y_bo 8 0 a1), some (y_bi x2)] [] m = if z_w (y_mI m a0 1) ≤ z_w x2 then y_R sp ph d 64 37 [none, none, none] [] m else y_bI (y_V sp ph d 65 [y_bo 8 0 a1, y_bi x2] m) (fun v1 m1 => y_bV (y_V sp ph d 8 [y_bo 100 12 (a0 + 1), y_bi x2, y_bi v1] m1) (fun m2 => y_R sp ph d 64 10 [some (y_bo 8 0 a0), some (y_bo 8 0 a1), some (y_bi (x2 + 1))] [] m2) (fun e m1 => y_px e m1)) (fun e m1 => y_px e m1) := by
  rw [y_R_eq (md := z_md_64) rfl rfl]
  exact (y_ic rfl (y_bIc fun v1 m1 => (y_sh (L' := [some (y_bo 8 0 a0), some (y_bo 8 0 a1), some (y_bi x2)]) (S' := [y_bi v1, y_bi x2, y_bo 100 12 (a0 + 1)]) rfl rfl (y_bVc fun m2 => (y_sh (L' := [some (y_bo 8 0 a0), some (y_bo 8 0 a1), some (y_bi x2)]) (S' := []) rfl rfl rfl)))))
set_option maxRecDepth 4000 in
theorem y_E_64_37 (d : Nat) (m : y_m) : y_R sp ph d 64 37 [none, none, none] [] m = y_rV m := (y_R_eq (md := z_md_64) rfl rfl).trans rfl
set_option maxRecDepth 4000 in
theorem y_C_64 (d : Nat) (a0 : Nat) (a1 : Nat) (m : y_m) : y_V sp ph (d + 1) 64 [y_bo 8 0 a0, y_bo 8 0 a1] m = y_R sp ph d 64 0 [some (y_bo 8 0 a0), some (y_bo 8 0 a1), none] [] m := (y_V_eq (md := z_md_64) rfl rfl rfl).trans rfl
/-! LacedHoles$Way.hole (I)I -/
set_option maxRecDepth 4000 in
theorem y_E_65_0 (d : Nat) (a0 : Nat) (x1 : Int) (m : y_m) : y_R sp ph d 65 0 [some (y_bo 8 0 a0), some (y_bi x1)] [] m = if 1 ≤ z_w (y_mI m a0 1) then y_R sp ph d 65 12 [some (y_bo 8 0 a0), some (y_bi x1)] [] m else y_R sp ph d 65 27 [none, none] [y_bi (-1)] m := (y_R_eq (md := z_md_65) rfl rfl).trans rfl
set_option maxRecDepth 4000 in
theorem y_E_65_12 (d : Nat) (a0 : Nat) (x1 : Int) (m : y_m) : y_R sp ph d 65 12 [some (y_bo 8 0 a0), some (y_bi x1)] [] m = y_bI (y_V sp ph d 2 [y_bi x1, y_bi (y_mI m a0 1)] m) (fun v1 m1 => y_bI (y_V sp ph d 7 [y_bo 100 12 (a0 + 1), y_bi v1] m1) (fun v2 m2 => y_R sp ph d 65 27 [none, none] [y_bi v2] m2) (fun e m1 => y_px e m1)) (fun e m1 => y_px e m1) := by
  rw [y_R_eq (md := z_md_65) rfl rfl]
  exact (y_bIc fun v1 m1 => (y_sh (L' := [some (y_bo 8 0 a0), some (y_bi x1)]) (S' := [y_bi v1, y_bo 100 12 (a0 + 1)]) rfl rfl (y_bIc fun v2 m2 => (y_sh (L' := [some (y_bo 8 0 a0), some (y_bi x1)]) (S' := [y_bi v2]) rfl rfl rfl))))
set_option maxRecDepth 4000 in
theorem y_E_65_27 (d : Nat) (xs0 : Int) (m : y_m) : y_R sp ph d 65 27 [none, none] [y_bi xs0] m = y_rI xs0 m := (y_R_eq (md := z_md_65) rfl rfl).trans rfl
set_option maxRecDepth 4000 in
theorem y_C_65 (d : Nat) (a0 : Nat) (x1 : Int) (m : y_m) : y_V sp ph (d + 1) 65 [y_bo 8 0 a0, y_bi x1] m = y_R sp ph d 65 0 [some (y_bo 8 0 a0), some (y_bi x1)] [] m := (y_V_eq (md := z_md_65) rfl rfl rfl).trans rfl
/-! LacedHoles$Way.setHole (II)V -/
set_option maxRecDepth 4000 in
theorem y_E_66_0 (d : Nat) (a0 : Nat) (x1 : Int) (x2 : Int) (m : y_m) : y_R sp ph d 66 0 [some (y_bo 8 0 a0), some (y_bi x1), some (y_bi x2)] [] m = y_bV (y_V sp ph d 8 [y_bo 100 12 (a0 + 1), y_bi x1, y_bi x2] m) (fun m1 => y_rV m1) (fun e m1 => y_px e m1) := by
  rw [y_R_eq (md := z_md_66) rfl rfl]
  exact (y_bVc fun m1 => (y_sh (L' := [some (y_bo 8 0 a0), some (y_bi x1), some (y_bi x2)]) (S' := []) rfl rfl rfl))
set_option maxRecDepth 4000 in
theorem y_C_66 (d : Nat) (a0 : Nat) (x1 : Int) (x2 : Int) (m : y_m) : y_V sp ph (d + 1) 66 [y_bo 8 0 a0, y_bi x1, y_bi x2] m = y_R sp ph d 66 0 [some (y_bo 8 0 a0), some (y_bi x1), some (y_bi x2)] [] m := (y_V_eq (md := z_md_66) rfl rfl rfl).trans rfl
/-! LacedHoles$Way.bits ()I -/
set_option maxRecDepth 4000 in
theorem y_E_67_0 (d : Nat) (a0 : Nat) (m : y_m) : y_R sp ph d 67 0 [some (y_bo 8 0 a0), none, none] [] m = y_R sp ph d 67 4 [some (y_bo 8 0 a0), some (y_bi 0), some (y_bi 0)] [] m := (y_R_eq (md := z_md_67) rfl rfl).trans rfl
set_option maxRecDepth 4000 in
theorem y_E_67_4 (d : Nat) (a0 : Nat) (x1 : Int) (x2 : Int) (m : y_m) : y_R sp ph d 67 4 [some (y_bo 8 0 a0), some (y_bi x1), some (y_bi x2)] [] m = if z_w (y_mI m a0 1) ≤ z_w x2 then y_R sp ph d 67 28 [none, some (y_bi x1), none] [] m else y_bI (y_V sp ph d 65 [y_bo 8 0 a0, y_bi x2] m) (fun v1 m1 => y_R sp ph d 67 4 [some (y_bo 8 0 a0), some (y_bi (z_ior x1 (z_ishl 1 v1))), some (y_bi (x2 + 1))] [] m1) (fun e m1 => y_px e m1) := by
  rw [y_R_eq (md := z_md_67) rfl rfl]
  exact (y_ic rfl (y_bIc fun v1 m1 => (y_sh (L' := [some (y_bo 8 0 a0), some (y_bi x1), some (y_bi x2)]) (S' := [y_bi v1, y_bi 1, y_bi x1]) rfl rfl rfl)))
set_option maxRecDepth 4000 in
theorem y_E_67_28 (d : Nat) (x1 : Int) (m : y_m) : y_R sp ph d 67 28 [none, some (y_bi x1), none] [] m = y_rI x1 m := (y_R_eq (md := z_md_67) rfl rfl).trans rfl
set_option maxRecDepth 4000 in
theorem y_C_67 (d : Nat) (a0 : Nat) (m : y_m) : y_V sp ph (d + 1) 67 [y_bo 8 0 a0] m = y_R sp ph d 67 0 [some (y_bo 8 0 a0), none, none] [] m := (y_V_eq (md := z_md_67) rfl rfl rfl).trans rfl
/-! LacedHoles$Way.find (I)I -/
set_option maxRecDepth 4000 in
theorem y_E_68_0 (d : Nat) (a0 : Nat) (x1 : Int) (m : y_m) : y_R sp ph d 68 0 [some (y_bo 8 0 a0), some (y_bi x1), none] [] m = y_R sp ph d 68 2 [some (y_bo 8 0 a0), some (y_bi x1), some (y_bi 0)] [] m := (y_R_eq (md := z_md_68) rfl rfl).trans rfl
set_option maxRecDepth 4000 in
theorem y_E_68_2 (d : Nat) (a0 : Nat) (x1 : Int) (x2 : Int) (m : y_m) : y_R sp ph d 68 2 [some (y_bo 8 0 a0), some (y_bi x1), some (y_bi x2)] [] m = if z_w (y_mI m a0 1) ≤ z_w x2 then y_R sp ph d 68 30 [none, none, none] [] m else y_bI (y_V sp ph d 7 [y_bo 100 12 (a0 + 1), y_bi x2] m) (fun v1 m1 => if ¬ z_w v1 = z_w x1 then y_R sp ph d 68 24 [some (y_bo 8 0 a0), some (y_bi x1), some (y_bi x2)] [] m1 else y_rI x2 m1) (fun e m1 => y_px e m1) := by
  rw [y_R_eq (md := z_md_68) rfl rfl]
  exact (y_ic rfl (y_bIc fun v1 m1 => (y_sh (L' := [some (y_bo 8 0 a0), some (y_bi x1), some (y_bi x2)]) (S' := [y_bi v1]) rfl rfl rfl)))
set_option maxRecDepth 4000 in
theorem y_E_68_24 (d : Nat) (a0 : Nat) (x1 : Int) (x2 : Int) (m : y_m) : y_R sp ph d 68 24 [some (y_bo 8 0 a0), some (y_bi x1), some (y_bi x2)] [] m = y_R sp ph d 68 2 [some (y_bo 8 0 a0), some (y_bi x1), some (y_bi (x2 + 1))] [] m := (y_R_eq (md := z_md_68) rfl rfl).trans rfl
set_option maxRecDepth 4000 in
theorem y_E_68_30 (d : Nat) (m : y_m) : y_R sp ph d 68 30 [none, none, none] [] m = y_rI (-1) m := (y_R_eq (md := z_md_68) rfl rfl).trans rfl
set_option maxRecDepth 4000 in
theorem y_C_68 (d : Nat) (a0 : Nat) (x1 : Int) (m : y_m) : y_V sp ph (d + 1) 68 [y_bo 8 0 a0, y_bi x1] m = y_R sp ph d 68 0 [some (y_bo 8 0 a0), some (y_bi x1), none] [] m := (y_V_eq (md := z_md_68) rfl rfl rfl).trans rfl
/-! LacedHoles$Way.readFrom (LLacedHoles$Tape;LLacedHoles$Boot;)V -/
set_option maxRecDepth 4000 in
theorem y_E_69_0 (d : Nat) (a0 : Nat) (a1 : Nat) (a2 : Nat) (m : y_m) : y_R sp ph d 69 0 [some (y_bo 8 0 a0), some (y_bo 6 0 a1), some (y_bo 0 0 a2), none, none, none] [] m = y_bV (y_V sp ph d 62 [y_bo 8 0 a0] m) (fun m1 => y_R sp ph d 69 12 [some (y_bo 8 0 a0), some (y_bo 6 0 a1), some (y_bo 0 0 a2), some (y_bi (y_mI m1 a2 4)), some (y_bi 0), none] [] m1) (fun e m1 => y_px e m1) := by
  rw [y_R_eq (md := z_md_69) rfl rfl]
  exact (y_bVc fun m1 => (y_sh (L' := [some (y_bo 8 0 a0), some (y_bo 6 0 a1), some (y_bo 0 0 a2), none, none, none]) (S' := []) rfl rfl rfl))
set_option maxRecDepth 4000 in
theorem y_E_69_12 (d : Nat) (a0 : Nat) (a1 : Nat) (a2 : Nat) (x3 : Int) (x4 : Int) (m : y_m) : y_R sp ph d 69 12 [some (y_bo 8 0 a0), some (y_bo 6 0 a1), some (y_bo 0 0 a2), some (y_bi x3), some (y_bi x4), none] [] m = if 12 < z_w x4 then y_R sp ph d 69 82 [some (y_bo 8 0 a0), some (y_bo 6 0 a1), none, none, none, none] [] m else y_bI (y_V sp ph d 17 [y_bo 6 0 a1] m) (fun v1 m1 => if ¬ z_w v1 = 0 then y_R sp ph d 69 82 [some (y_bo 8 0 a0), some (y_bo 6 0 a1), none, none, none, none] [] m1 else y_bI (y_V sp ph d 23 [y_bo 6 0 a1] m1) (fun v2 m2 => if z_w v2 = 0 then y_R sp ph d 69 36 [some (y_bo 8 0 a0), some (y_bo 6 0 a1), some (y_bo 0 0 a2), some (y_bi x3), some (y_bi x4), none] [] m2 else y_R sp ph d 69 82 [some (y_bo 8 0 a0), some (y_bo 6 0 a1), none, none, none, none] [] m2) (fun e m1 => y_px e m1)) (fun e m1 => y_px e m1) := by
  rw [y_R_eq (md := z_md_69) rfl rfl]
  exact (y_ic rfl (y_bIc fun v1 m1 => (y_sh (L' := [some (y_bo 8 0 a0), some (y_bo 6 0 a1), some (y_bo 0 0 a2), some (y_bi x3), some (y_bi x4), none]) (S' := [y_bi v1]) rfl rfl (y_ic rfl (y_bIc fun v2 m2 => (y_sh (L' := [some (y_bo 8 0 a0), some (y_bo 6 0 a1), some (y_bo 0 0 a2), some (y_bi x3), some (y_bi x4), none]) (S' := [y_bi v2]) rfl rfl rfl))))))
set_option maxRecDepth 4000 in
theorem y_E_69_36 (d : Nat) (a0 : Nat) (a1 : Nat) (a2 : Nat) (x3 : Int) (x4 : Int) (m : y_m) : y_R sp ph d 69 36 [some (y_bo 8 0 a0), some (y_bo 6 0 a1), some (y_bo 0 0 a2), some (y_bi x3), some (y_bi x4), none] [] m = y_bI (y_V sp ph d 38 [y_bo 0 0 a2] m) (fun v1 m1 => y_bI (y_V sp ph d 28 [y_bo 6 0 a1, y_bi 0, y_bi (v1 - 1)] m1) (fun v2 m2 => if z_w (z_iand (z_ishr x3 v2) 1) = 0 then y_R sp ph d 69 63 [some (y_bo 8 0 a0), some (y_bo 6 0 a1), some (y_bo 0 0 a2), some (y_bi x3), some (y_bi x4), some (y_bi v2)] [] m2 else y_bV (y_V sp ph d 21 [y_bo 6 0 a1, y_bi 2] m2) (fun m3 => y_R sp ph d 69 63 [some (y_bo 8 0 a0), some (y_bo 6 0 a1), some (y_bo 0 0 a2), some (y_bi x3), some (y_bi x4), some (y_bi v2)] [] m3) (fun e m1 => y_px e m1)) (fun e m1 => y_px e m1)) (fun e m1 => y_px e m1) := by
  rw [y_R_eq (md := z_md_69) rfl rfl]
  exact (y_bIc fun v1 m1 => (y_sh (L' := [some (y_bo 8 0 a0), some (y_bo 6 0 a1), some (y_bo 0 0 a2), some (y_bi x3), some (y_bi x4), none]) (S' := [y_bi v1, y_bi 0, y_bo 6 0 a1]) rfl rfl (y_bIc fun v2 m2 => (y_sh (L' := [some (y_bo 8 0 a0), some (y_bo 6 0 a1), some (y_bo 0 0 a2), some (y_bi x3), some (y_bi x4), none]) (S' := [y_bi v2]) rfl rfl (y_ic rfl (y_bVc fun m3 => (y_sh (L' := [some (y_bo 8 0 a0), some (y_bo 6 0 a1), some (y_bo 0 0 a2), some (y_bi x3), some (y_bi x4), some (y_bi v2)]) (S' := []) rfl rfl rfl)))))))
set_option maxRecDepth 4000 in
theorem y_E_69_63 (d : Nat) (a0 : Nat) (a1 : Nat) (a2 : Nat) (x3 : Int) (x4 : Int) (x5 : Int) (m : y_m) : y_R sp ph d 69 63 [some (y_bo 8 0 a0), some (y_bo 6 0 a1), some (y_bo 0 0 a2), some (y_bi x3), some (y_bi x4), some (y_bi x5)] [] m = y_bV (y_V sp ph d 63 [y_bo 8 0 a0, y_bi x5] m) (fun m1 => y_R sp ph d 69 12 [some (y_bo 8 0 a0), some (y_bo 6 0 a1), some (y_bo 0 0 a2), some (y_bi (z_ior x3 (z_ishl 1 x5))), some (y_bi (x4 + 1)), none] [] m1) (fun e m1 => y_px e m1) := by
  rw [y_R_eq (md := z_md_69) rfl rfl]
  exact (y_bVc fun m1 => (y_sh (L' := [some (y_bo 8 0 a0), some (y_bo 6 0 a1), some (y_bo 0 0 a2), some (y_bi (z_ior x3 (z_ishl 1 x5))), some (y_bi x4), some (y_bi x5)]) (S' := []) rfl rfl rfl))
set_option maxRecDepth 4000 in
theorem y_E_69_82 (d : Nat) (a0 : Nat) (a1 : Nat) (m : y_m) : y_R sp ph d 69 82 [some (y_bo 8 0 a0), some (y_bo 6 0 a1), none, none, none, none] [] m = if 3 ≤ z_w (y_mI m a0 1) then y_R sp ph d 69 95 [none, none, none, none, none, none] [] m else y_bV (y_V sp ph d 22 [y_bo 6 0 a1, y_bi 4] m) (fun m1 => y_R sp ph d 69 95 [none, none, none, none, none, none] [] m1) (fun e m1 => y_px e m1) := by
  rw [y_R_eq (md := z_md_69) rfl rfl]
  exact (y_ic rfl (y_bVc fun m1 => (y_sh (L' := [some (y_bo 8 0 a0), some (y_bo 6 0 a1), none, none, none, none]) (S' := []) rfl rfl rfl)))
set_option maxRecDepth 4000 in
theorem y_E_69_95 (d : Nat) (m : y_m) : y_R sp ph d 69 95 [none, none, none, none, none, none] [] m = y_rV m := (y_R_eq (md := z_md_69) rfl rfl).trans rfl
set_option maxRecDepth 4000 in
theorem y_C_69 (d : Nat) (a0 : Nat) (a1 : Nat) (a2 : Nat) (m : y_m) : y_V sp ph (d + 1) 69 [y_bo 8 0 a0, y_bo 6 0 a1, y_bo 0 0 a2] m = y_R sp ph d 69 0 [some (y_bo 8 0 a0), some (y_bo 6 0 a1), some (y_bo 0 0 a2), none, none, none] [] m := (y_V_eq (md := z_md_69) rfl rfl rfl).trans rfl
/-! LacedHoles$Way.tellAsRound (LLacedHoles$Way;)V -/
set_option maxRecDepth 4000 in
theorem y_E_70_0 (d : Nat) (a0 : Nat) (a1 : Nat) (m : y_m) : y_R sp ph d 70 0 [some (y_bo 8 0 a0), some (y_bo 8 0 a1), none, none, none] [] m = y_bV (y_V sp ph d 62 [y_bo 8 0 a0] m) (fun m1 => y_R sp ph d 70 8 [some (y_bo 8 0 a0), some (y_bo 8 0 a1), some (y_bi 0), some (y_bi 1), none] [] m1) (fun e m1 => y_px e m1) := by
  rw [y_R_eq (md := z_md_70) rfl rfl]
  exact (y_bVc fun m1 => (y_sh (L' := [some (y_bo 8 0 a0), some (y_bo 8 0 a1), none, none, none]) (S' := []) rfl rfl rfl))
set_option maxRecDepth 4000 in
theorem y_E_70_8 (d : Nat) (a0 : Nat) (a1 : Nat) (x2 : Int) (x3 : Int) (m : y_m) : y_R sp ph d 70 8 [some (y_bo 8 0 a0), some (y_bo 8 0 a1), some (y_bi x2), some (y_bi x3), none] [] m = if z_w (y_mI m a1 1) ≤ z_w x3 then y_R sp ph d 70 37 [some (y_bo 8 0 a0), some (y_bo 8 0 a1), some (y_bi x2), none, none] [] m else y_bI (y_V sp ph d 65 [y_bo 8 0 a1, y_bi x3] m) (fun v1 m1 => y_bI (y_V sp ph d 65 [y_bo 8 0 a1, y_bi x2] m1) (fun v2 m2 => if z_w v2 ≤ z_w v1 then y_R sp ph d 70 31 [some (y_bo 8 0 a0), some (y_bo 8 0 a1), some (y_bi x2), some (y_bi x3), none] [] m2 else y_R sp ph d 70 31 [some (y_bo 8 0 a0), some (y_bo 8 0 a1), some (y_bi x3), some (y_bi x3), none] [] m2) (fun e m1 => y_px e m1)) (fun e m1 => y_px e m1) := by
  rw [y_R_eq (md := z_md_70) rfl rfl]
  exact (y_ic rfl (y_bIc fun v1 m1 => (y_sh (L' := [some (y_bo 8 0 a0), some (y_bo 8 0 a1), some (y_bi x2), some (y_bi x3), none]) (S' := [y_bi v1]) rfl rfl (y_bIc fun v2 m2 => (y_sh (L' := [some (y_bo 8 0 a0), some (y_bo 8 0 a1), some (y_bi x2), some (y_bi x3), none]) (S' := [y_bi v2, y_bi v1]) rfl rfl rfl)))))
set_option maxRecDepth 4000 in
theorem y_E_70_31 (d : Nat) (a0 : Nat) (a1 : Nat) (x2 : Int) (x3 : Int) (m : y_m) : y_R sp ph d 70 31 [some (y_bo 8 0 a0), some (y_bo 8 0 a1), some (y_bi x2), some (y_bi x3), none] [] m = y_R sp ph d 70 8 [some (y_bo 8 0 a0), some (y_bo 8 0 a1), some (y_bi x2), some (y_bi (x3 + 1)), none] [] m := (y_R_eq (md := z_md_70) rfl rfl).trans rfl
set_option maxRecDepth 4000 in
theorem y_E_70_37 (d : Nat) (a0 : Nat) (a1 : Nat) (x2 : Int) (m : y_m) : y_R sp ph d 70 37 [some (y_bo 8 0 a0), some (y_bo 8 0 a1), some (y_bi x2), none, none] [] m = y_bI (y_V sp ph d 65 [y_bo 8 0 a1, y_bi (x2 + 1)] m) (fun v1 m1 => y_bI (y_V sp ph d 65 [y_bo 8 0 a1, y_bi (x2 - 1)] m1) (fun v2 m2 => if z_w v2 ≤ z_w v1 then y_R sp ph d 70 58 [some (y_bo 8 0 a0), some (y_bo 8 0 a1), some (y_bi x2), none, none] [] m2 else y_R sp ph d 70 59 [some (y_bo 8 0 a0), some (y_bo 8 0 a1), some (y_bi x2), none, none] [y_bi 1] m2) (fun e m1 => y_px e m1)) (fun e m1 => y_px e m1) := by
  rw [y_R_eq (md := z_md_70) rfl rfl]
  exact (y_bIc fun v1 m1 => (y_sh (L' := [some (y_bo 8 0 a0), some (y_bo 8 0 a1), some (y_bi x2), none, none]) (S' := [y_bi v1]) rfl rfl (y_bIc fun v2 m2 => (y_sh (L' := [some (y_bo 8 0 a0), some (y_bo 8 0 a1), some (y_bi x2), none, none]) (S' := [y_bi v2, y_bi v1]) rfl rfl rfl))))
set_option maxRecDepth 4000 in
theorem y_E_70_58 (d : Nat) (a0 : Nat) (a1 : Nat) (x2 : Int) (m : y_m) : y_R sp ph d 70 58 [some (y_bo 8 0 a0), some (y_bo 8 0 a1), some (y_bi x2), none, none] [] m = y_R sp ph d 70 59 [some (y_bo 8 0 a0), some (y_bo 8 0 a1), some (y_bi x2), none, none] [y_bi (-1)] m := (y_R_eq (md := z_md_70) rfl rfl).trans rfl
set_option maxRecDepth 4000 in
theorem y_E_70_59 (d : Nat) (a0 : Nat) (a1 : Nat) (x2 : Int) (xs0 : Int) (m : y_m) : y_R sp ph d 70 59 [some (y_bo 8 0 a0), some (y_bo 8 0 a1), some (y_bi x2), none, none] [y_bi xs0] m = y_R sp ph d 70 63 [some (y_bo 8 0 a0), some (y_bo 8 0 a1), some (y_bi x2), some (y_bi xs0), some (y_bi 0)] [] m := (y_R_eq (md := z_md_70) rfl rfl).trans rfl
set_option maxRecDepth 4000 in
theorem y_E_70_63 (d : Nat) (a0 : Nat) (a1 : Nat) (x2 : Int) (x3 : Int) (x4 : Int) (m : y_m) : y_R sp ph d 70 63 [some (y_bo 8 0 a0), some (y_bo 8 0 a1), some (y_bi x2), some (y_bi x3), some (y_bi x4)] [] m = if z_w (y_mI m a1 1) ≤ z_w x4 then y_R sp ph d 70 92 [none, none, none, none, none] [] m else y_bI (y_V sp ph d 65 [y_bo 8 0 a1, y_bi (x2 + (x3 * x4))] m) (fun v1 m1 => y_bV (y_V sp ph d 63 [y_bo 8 0 a0, y_bi v1] m1) (fun m2 => y_R sp ph d 70 63 [some (y_bo 8 0 a0), some (y_bo 8 0 a1), some (y_bi x2), some (y_bi x3), some (y_bi (x4 + 1))] [] m2) (fun e m1 => y_px e m1)) (fun e m1 => y_px e m1) := by
  rw [y_R_eq (md := z_md_70) rfl rfl]
  exact (y_ic rfl (y_bIc fun v1 m1 => (y_sh (L' := [some (y_bo 8 0 a0), some (y_bo 8 0 a1), some (y_bi x2), some (y_bi x3), some (y_bi x4)]) (S' := [y_bi v1, y_bo 8 0 a0]) rfl rfl (y_bVc fun m2 => (y_sh (L' := [some (y_bo 8 0 a0), some (y_bo 8 0 a1), some (y_bi x2), some (y_bi x3), some (y_bi x4)]) (S' := []) rfl rfl rfl)))))
set_option maxRecDepth 4000 in
theorem y_E_70_92 (d : Nat) (m : y_m) : y_R sp ph d 70 92 [none, none, none, none, none] [] m = y_rV m := (y_R_eq (md := z_md_70) rfl rfl).trans rfl
set_option maxRecDepth 4000 in
theorem y_C_70 (d : Nat) (a0 : Nat) (a1 : Nat) (m : y_m) : y_V sp ph (d + 1) 70 [y_bo 8 0 a0, y_bo 8 0 a1] m = y_R sp ph d 70 0 [some (y_bo 8 0 a0), some (y_bo 8 0 a1), none, none, none] [] m := (y_V_eq (md := z_md_70) rfl rfl rfl).trans rfl
/-! LacedHoles$Way.acrossAfter (LLacedHoles$Boot;I)I -/
set_option maxRecDepth 4000 in
theorem y_E_71_0 (d : Nat) (a0 : Nat) (a1 : Nat) (x2 : Int) (m : y_m) : y_R sp ph d 71 0 [some (y_bo 8 0 a0), some (y_bo 0 0 a1), some (y_bi x2)] [] m = y_bI (y_V sp ph d 65 [y_bo 8 0 a0, y_bi x2] m) (fun v1 m1 => y_bI (y_V sp ph d 65 [y_bo 8 0 a0, y_bi (x2 + 1)] m1) (fun v2 m2 => y_bI (y_V sp ph d 45 [y_bo 0 0 a1, y_bi v1, y_bi v2] m2) (fun v3 m3 => y_rI v3 m3) (fun e m1 => y_px e m1)) (fun e m1 => y_px e m1)) (fun e m1 => y_px e m1) := by
  rw [y_R_eq (md := z_md_71) rfl rfl]
  exact (y_bIc fun v1 m1 => (y_sh (L' := [some (y_bo 8 0 a0), some (y_bo 0 0 a1), some (y_bi x2)]) (S' := [y_bi v1, y_bo 0 0 a1]) rfl rfl (y_bIc fun v2 m2 => (y_sh (L' := [some (y_bo 8 0 a0), some (y_bo 0 0 a1), some (y_bi x2)]) (S' := [y_bi v2, y_bi v1, y_bo 0 0 a1]) rfl rfl (y_bIc fun v3 m3 => (y_sh (L' := [some (y_bo 8 0 a0), some (y_bo 0 0 a1), some (y_bi x2)]) (S' := [y_bi v3]) rfl rfl rfl))))))
set_option maxRecDepth 4000 in
theorem y_C_71 (d : Nat) (a0 : Nat) (a1 : Nat) (x2 : Int) (m : y_m) : y_V sp ph (d + 1) 71 [y_bo 8 0 a0, y_bo 0 0 a1, y_bi x2] m = y_R sp ph d 71 0 [some (y_bo 8 0 a0), some (y_bo 0 0 a1), some (y_bi x2)] [] m := (y_V_eq (md := z_md_71) rfl rfl rfl).trans rfl
/-! LacedHoles$Way.firstAgainst (LLacedHoles$Boot;)I -/
set_option maxRecDepth 4000 in
theorem y_E_72_0 (d : Nat) (a0 : Nat) (a1 : Nat) (m : y_m) : y_R sp ph d 72 0 [some (y_bo 8 0 a0), some (y_bo 0 0 a1), none] [] m = y_R sp ph d 72 2 [some (y_bo 8 0 a0), some (y_bo 0 0 a1), some (y_bi 0)] [] m := (y_R_eq (md := z_md_72) rfl rfl).trans rfl
set_option maxRecDepth 4000 in
theorem y_E_72_2 (d : Nat) (a0 : Nat) (a1 : Nat) (x2 : Int) (m : y_m) : y_R sp ph d 72 2 [some (y_bo 8 0 a0), some (y_bo 0 0 a1), some (y_bi x2)] [] m = if z_w (y_mI m a0 1) ≤ z_w x2 then y_R sp ph d 72 43 [none, none, none] [] m else y_bI (y_V sp ph d 71 [y_bo 8 0 a0, y_bo 0 0 a1, y_bi (x2 - 1)] m) (fun v1 m1 => y_bI (y_V sp ph d 71 [y_bo 8 0 a0, y_bo 0 0 a1, y_bi x2] m1) (fun v2 m2 => y_bI (y_V sp ph d 46 [y_bo 0 0 a1, y_bi v1, y_bi v2] m2) (fun v3 m3 => if ¬ z_w v3 = 0 then y_R sp ph d 72 37 [some (y_bo 8 0 a0), some (y_bo 0 0 a1), some (y_bi x2)] [] m3 else y_bI (y_V sp ph d 65 [y_bo 8 0 a0, y_bi x2] m3) (fun v4 m4 => y_rI v4 m4) (fun e m1 => y_px e m1)) (fun e m1 => y_px e m1)) (fun e m1 => y_px e m1)) (fun e m1 => y_px e m1) := by
  rw [y_R_eq (md := z_md_72) rfl rfl]
  exact (y_ic rfl (y_bIc fun v1 m1 => (y_sh (L' := [some (y_bo 8 0 a0), some (y_bo 0 0 a1), some (y_bi x2)]) (S' := [y_bi v1, y_bo 0 0 a1]) rfl rfl (y_bIc fun v2 m2 => (y_sh (L' := [some (y_bo 8 0 a0), some (y_bo 0 0 a1), some (y_bi x2)]) (S' := [y_bi v2, y_bi v1, y_bo 0 0 a1]) rfl rfl (y_bIc fun v3 m3 => (y_sh (L' := [some (y_bo 8 0 a0), some (y_bo 0 0 a1), some (y_bi x2)]) (S' := [y_bi v3]) rfl rfl (y_ic rfl (y_bIc fun v4 m4 => (y_sh (L' := [some (y_bo 8 0 a0), some (y_bo 0 0 a1), some (y_bi x2)]) (S' := [y_bi v4]) rfl rfl rfl))))))))))
set_option maxRecDepth 4000 in
theorem y_E_72_37 (d : Nat) (a0 : Nat) (a1 : Nat) (x2 : Int) (m : y_m) : y_R sp ph d 72 37 [some (y_bo 8 0 a0), some (y_bo 0 0 a1), some (y_bi x2)] [] m = y_R sp ph d 72 2 [some (y_bo 8 0 a0), some (y_bo 0 0 a1), some (y_bi (x2 + 1))] [] m := (y_R_eq (md := z_md_72) rfl rfl).trans rfl
set_option maxRecDepth 4000 in
theorem y_E_72_43 (d : Nat) (m : y_m) : y_R sp ph d 72 43 [none, none, none] [] m = y_rI (-1) m := (y_R_eq (md := z_md_72) rfl rfl).trans rfl
set_option maxRecDepth 4000 in
theorem y_C_72 (d : Nat) (a0 : Nat) (a1 : Nat) (m : y_m) : y_V sp ph (d + 1) 72 [y_bo 8 0 a0, y_bo 0 0 a1] m = y_R sp ph d 72 0 [some (y_bo 8 0 a0), some (y_bo 0 0 a1), none] [] m := (y_V_eq (md := z_md_72) rfl rfl rfl).trans rfl
/-! LacedHoles$Way.spansAcross (LLacedHoles$Boot;)I -/
set_option maxRecDepth 4000 in
theorem y_E_73_0 (d : Nat) (a0 : Nat) (a1 : Nat) (m : y_m) : y_R sp ph d 73 0 [some (y_bo 8 0 a0), some (y_bo 0 0 a1), none, none] [] m = y_R sp ph d 73 4 [some (y_bo 8 0 a0), some (y_bo 0 0 a1), some (y_bi 0), some (y_bi 0)] [] m := (y_R_eq (md := z_md_73) rfl rfl).trans rfl
set_option maxRecDepth 4000 in
theorem y_E_73_4 (d : Nat) (a0 : Nat) (a1 : Nat) (x2 : Int) (x3 : Int) (m : y_m) : y_R sp ph d 73 4 [some (y_bo 8 0 a0), some (y_bo 0 0 a1), some (y_bi x2), some (y_bi x3)] [] m = if z_w (y_mI m a0 1) ≤ z_w x3 then y_R sp ph d 73 27 [none, none, some (y_bi x2), none] [] m else y_bI (y_V sp ph d 71 [y_bo 8 0 a0, y_bo 0 0 a1, y_bi x3] m) (fun v1 m1 => y_R sp ph d 73 4 [some (y_bo 8 0 a0), some (y_bo 0 0 a1), some (y_bi (x2 + v1)), some (y_bi (x3 + 1))] [] m1) (fun e m1 => y_px e m1) := by
  rw [y_R_eq (md := z_md_73) rfl rfl]
  exact (y_ic rfl (y_bIc fun v1 m1 => (y_sh (L' := [some (y_bo 8 0 a0), some (y_bo 0 0 a1), some (y_bi x2), some (y_bi x3)]) (S' := [y_bi v1, y_bi x2]) rfl rfl rfl)))
set_option maxRecDepth 4000 in
theorem y_E_73_27 (d : Nat) (x2 : Int) (m : y_m) : y_R sp ph d 73 27 [none, none, some (y_bi x2), none] [] m = y_rI x2 m := (y_R_eq (md := z_md_73) rfl rfl).trans rfl
set_option maxRecDepth 4000 in
theorem y_C_73 (d : Nat) (a0 : Nat) (a1 : Nat) (m : y_m) : y_V sp ph (d + 1) 73 [y_bo 8 0 a0, y_bo 0 0 a1] m = y_R sp ph d 73 0 [some (y_bo 8 0 a0), some (y_bo 0 0 a1), none, none] [] m := (y_V_eq (md := z_md_73) rfl rfl rfl).trans rfl
/-! LacedHoles$Way.turns (LLacedHoles$Boot;)I -/
set_option maxRecDepth 4000 in
theorem y_E_74_0 (d : Nat) (a0 : Nat) (a1 : Nat) (m : y_m) : y_R sp ph d 74 0 [some (y_bo 8 0 a0), some (y_bo 0 0 a1), none, none] [] m = y_R sp ph d 74 4 [some (y_bo 8 0 a0), some (y_bo 0 0 a1), some (y_bi 0), some (y_bi 0)] [] m := (y_R_eq (md := z_md_74) rfl rfl).trans rfl
set_option maxRecDepth 4000 in
theorem y_E_74_4 (d : Nat) (a0 : Nat) (a1 : Nat) (x2 : Int) (x3 : Int) (m : y_m) : y_R sp ph d 74 4 [some (y_bo 8 0 a0), some (y_bo 0 0 a1), some (y_bi x2), some (y_bi x3)] [] m = if z_w (y_mI m a0 1) ≤ z_w x3 then y_R sp ph d 74 39 [none, none, some (y_bi x2), none] [] m else y_bI (y_V sp ph d 71 [y_bo 8 0 a0, y_bo 0 0 a1, y_bi (x3 - 1)] m) (fun v1 m1 => y_bI (y_V sp ph d 71 [y_bo 8 0 a0, y_bo 0 0 a1, y_bi x3] m1) (fun v2 m2 => if ¬ z_w (v1 + v2) = 0 then y_R sp ph d 74 33 [some (y_bo 8 0 a0), some (y_bo 0 0 a1), some (y_bi x2), some (y_bi x3)] [] m2 else y_R sp ph d 74 33 [some (y_bo 8 0 a0), some (y_bo 0 0 a1), some (y_bi (x2 + 1)), some (y_bi x3)] [] m2) (fun e m1 => y_px e m1)) (fun e m1 => y_px e m1) := by
  rw [y_R_eq (md := z_md_74) rfl rfl]
  exact (y_ic rfl (y_bIc fun v1 m1 => (y_sh (L' := [some (y_bo 8 0 a0), some (y_bo 0 0 a1), some (y_bi x2), some (y_bi x3)]) (S' := [y_bi v1]) rfl rfl (y_bIc fun v2 m2 => (y_sh (L' := [some (y_bo 8 0 a0), some (y_bo 0 0 a1), some (y_bi x2), some (y_bi x3)]) (S' := [y_bi v2, y_bi v1]) rfl rfl rfl)))))
set_option maxRecDepth 4000 in
theorem y_E_74_33 (d : Nat) (a0 : Nat) (a1 : Nat) (x2 : Int) (x3 : Int) (m : y_m) : y_R sp ph d 74 33 [some (y_bo 8 0 a0), some (y_bo 0 0 a1), some (y_bi x2), some (y_bi x3)] [] m = y_R sp ph d 74 4 [some (y_bo 8 0 a0), some (y_bo 0 0 a1), some (y_bi x2), some (y_bi (x3 + 1))] [] m := (y_R_eq (md := z_md_74) rfl rfl).trans rfl
set_option maxRecDepth 4000 in
theorem y_E_74_39 (d : Nat) (x2 : Int) (m : y_m) : y_R sp ph d 74 39 [none, none, some (y_bi x2), none] [] m = y_rI x2 m := (y_R_eq (md := z_md_74) rfl rfl).trans rfl
set_option maxRecDepth 4000 in
theorem y_C_74 (d : Nat) (a0 : Nat) (a1 : Nat) (m : y_m) : y_V sp ph (d + 1) 74 [y_bo 8 0 a0, y_bo 0 0 a1] m = y_R sp ph d 74 0 [some (y_bo 8 0 a0), some (y_bo 0 0 a1), none, none] [] m := (y_V_eq (md := z_md_74) rfl rfl rfl).trans rfl
/-! LacedHoles$Way.wearOf (LLacedHoles$Boot;I)I -/
set_option maxRecDepth 4000 in
theorem y_E_75_0 (d : Nat) (a0 : Nat) (a1 : Nat) (x2 : Int) (m : y_m) : y_R sp ph d 75 0 [some (y_bo 8 0 a0), some (y_bo 0 0 a1), some (y_bi x2), none] [] m = y_bI (y_V sp ph d 68 [y_bo 8 0 a0, y_bi x2] m) (fun v1 m1 => if ¬ z_w v1 = (-1) then y_R sp ph d 75 15 [some (y_bo 8 0 a0), some (y_bo 0 0 a1), none, some (y_bi v1)] [] m1 else y_R sp ph d 75 32 [none, none, none, none] [y_bi 0] m1) (fun e m1 => y_px e m1) := by
  rw [y_R_eq (md := z_md_75) rfl rfl]
  exact (y_bIc fun v1 m1 => (y_sh (L' := [some (y_bo 8 0 a0), some (y_bo 0 0 a1), some (y_bi x2), none]) (S' := [y_bi v1]) rfl rfl rfl))
set_option maxRecDepth 4000 in
theorem y_E_75_15 (d : Nat) (a0 : Nat) (a1 : Nat) (x3 : Int) (m : y_m) : y_R sp ph d 75 15 [some (y_bo 8 0 a0), some (y_bo 0 0 a1), none, some (y_bi x3)] [] m = y_bI (y_V sp ph d 71 [y_bo 8 0 a0, y_bo 0 0 a1, y_bi (x3 - 1)] m) (fun v1 m1 => y_bI (y_V sp ph d 71 [y_bo 8 0 a0, y_bo 0 0 a1, y_bi x3] m1) (fun v2 m2 => y_R sp ph d 75 32 [none, none, none, none] [y_bi ((3 - v1) - v2)] m2) (fun e m1 => y_px e m1)) (fun e m1 => y_px e m1) := by
  rw [y_R_eq (md := z_md_75) rfl rfl]
  exact (y_bIc fun v1 m1 => (y_sh (L' := [some (y_bo 8 0 a0), some (y_bo 0 0 a1), none, some (y_bi x3)]) (S' := [y_bi v1, y_bi 3]) rfl rfl (y_bIc fun v2 m2 => (y_sh (L' := [some (y_bo 8 0 a0), some (y_bo 0 0 a1), none, some (y_bi x3)]) (S' := [y_bi v2, y_bi (3 - v1)]) rfl rfl rfl))))
set_option maxRecDepth 4000 in
theorem y_E_75_32 (d : Nat) (xs0 : Int) (m : y_m) : y_R sp ph d 75 32 [none, none, none, none] [y_bi xs0] m = y_rI xs0 m := (y_R_eq (md := z_md_75) rfl rfl).trans rfl
set_option maxRecDepth 4000 in
theorem y_C_75 (d : Nat) (a0 : Nat) (a1 : Nat) (x2 : Int) (m : y_m) : y_V sp ph (d + 1) 75 [y_bo 8 0 a0, y_bo 0 0 a1, y_bi x2] m = y_R sp ph d 75 0 [some (y_bo 8 0 a0), some (y_bo 0 0 a1), some (y_bi x2), none] [] m := (y_V_eq (md := z_md_75) rfl rfl rfl).trans rfl
/-! LacedHoles$Way.selfImages (LLacedHoles$Boot;)I -/
set_option maxRecDepth 4000 in
theorem y_E_76_0 (d : Nat) (a0 : Nat) (a1 : Nat) (m : y_m) : y_R sp ph d 76 0 [some (y_bo 8 0 a0), some (y_bo 0 0 a1), none] [] m = y_bI (y_V sp ph d 77 [y_bo 8 0 a0, y_bo 0 0 a1, y_bi 1, y_bi 0] m) (fun v1 m1 => if z_w v1 = 0 then y_R sp ph d 76 15 [some (y_bo 8 0 a0), some (y_bo 0 0 a1), some (y_bi 1)] [] m1 else y_R sp ph d 76 15 [some (y_bo 8 0 a0), some (y_bo 0 0 a1), some (y_bi (1 + 1))] [] m1) (fun e m1 => y_px e m1) := by
  rw [y_R_eq (md := z_md_76) rfl rfl]
  exact (y_bIc fun v1 m1 => (y_sh (L' := [some (y_bo 8 0 a0), some (y_bo 0 0 a1), some (y_bi 1)]) (S' := [y_bi v1]) rfl rfl rfl))
set_option maxRecDepth 4000 in
theorem y_E_76_15 (d : Nat) (a0 : Nat) (a1 : Nat) (x2 : Int) (m : y_m) : y_R sp ph d 76 15 [some (y_bo 8 0 a0), some (y_bo 0 0 a1), some (y_bi x2)] [] m = y_bI (y_V sp ph d 77 [y_bo 8 0 a0, y_bo 0 0 a1, y_bi 0, y_bi 1] m) (fun v1 m1 => if z_w v1 = 0 then y_R sp ph d 76 28 [some (y_bo 8 0 a0), some (y_bo 0 0 a1), some (y_bi x2)] [] m1 else y_R sp ph d 76 28 [some (y_bo 8 0 a0), some (y_bo 0 0 a1), some (y_bi (x2 + 1))] [] m1) (fun e m1 => y_px e m1) := by
  rw [y_R_eq (md := z_md_76) rfl rfl]
  exact (y_bIc fun v1 m1 => (y_sh (L' := [some (y_bo 8 0 a0), some (y_bo 0 0 a1), some (y_bi x2)]) (S' := [y_bi v1]) rfl rfl rfl))
set_option maxRecDepth 4000 in
theorem y_E_76_28 (d : Nat) (a0 : Nat) (a1 : Nat) (x2 : Int) (m : y_m) : y_R sp ph d 76 28 [some (y_bo 8 0 a0), some (y_bo 0 0 a1), some (y_bi x2)] [] m = y_bI (y_V sp ph d 77 [y_bo 8 0 a0, y_bo 0 0 a1, y_bi 1, y_bi 1] m) (fun v1 m1 => if z_w v1 = 0 then y_R sp ph d 76 41 [none, none, some (y_bi x2)] [] m1 else y_R sp ph d 76 41 [none, none, some (y_bi (x2 + 1))] [] m1) (fun e m1 => y_px e m1) := by
  rw [y_R_eq (md := z_md_76) rfl rfl]
  exact (y_bIc fun v1 m1 => (y_sh (L' := [some (y_bo 8 0 a0), some (y_bo 0 0 a1), some (y_bi x2)]) (S' := [y_bi v1]) rfl rfl rfl))
set_option maxRecDepth 4000 in
theorem y_E_76_41 (d : Nat) (x2 : Int) (m : y_m) : y_R sp ph d 76 41 [none, none, some (y_bi x2)] [] m = y_rI x2 m := (y_R_eq (md := z_md_76) rfl rfl).trans rfl
set_option maxRecDepth 4000 in
theorem y_C_76 (d : Nat) (a0 : Nat) (a1 : Nat) (m : y_m) : y_V sp ph (d + 1) 76 [y_bo 8 0 a0, y_bo 0 0 a1] m = y_R sp ph d 76 0 [some (y_bo 8 0 a0), some (y_bo 0 0 a1), none] [] m := (y_V_eq (md := z_md_76) rfl rfl rfl).trans rfl
/-! LacedHoles$Way.isOwnImage (LLacedHoles$Boot;ZZ)Z -/
set_option maxRecDepth 4000 in
theorem y_E_77_0 (d : Nat) (a0 : Nat) (a1 : Nat) (x2 : Int) (x3 : Int) (m : y_m) : y_R sp ph d 77 0 [some (y_bo 8 0 a0), some (y_bo 0 0 a1), some (y_bi x2), some (y_bi x3), none, none, none, none] [] m = y_bI (y_V sp ph d 65 [y_bo 8 0 a0, y_bi 0] m) (fun v1 m1 => y_bI (y_V sp ph d 47 [y_bo 0 0 a1, y_bi v1, y_bi x2, y_bi x3] m1) (fun v2 m2 => y_bI (y_V sp ph d 68 [y_bo 8 0 a0, y_bi v2] m2) (fun v3 m3 => if ¬ z_w v3 = (-1) then y_R sp ph d 77 25 [some (y_bo 8 0 a0), some (y_bo 0 0 a1), some (y_bi x2), some (y_bi x3), some (y_bi v3), none, none, none] [] m3 else y_rI 0 m3) (fun e m1 => y_px e m1)) (fun e m1 => y_px e m1)) (fun e m1 => y_px e m1) := by
  rw [y_R_eq (md := z_md_77) rfl rfl]
  exact (y_bIc fun v1 m1 => (y_sh (L' := [some (y_bo 8 0 a0), some (y_bo 0 0 a1), some (y_bi x2), some (y_bi x3), none, none, none, none]) (S' := [y_bi v1, y_bo 0 0 a1, y_bo 8 0 a0]) rfl rfl (y_bIc fun v2 m2 => (y_sh (L' := [some (y_bo 8 0 a0), some (y_bo 0 0 a1), some (y_bi x2), some (y_bi x3), none, none, none, none]) (S' := [y_bi v2, y_bo 8 0 a0]) rfl rfl (y_bIc fun v3 m3 => (y_sh (L' := [some (y_bo 8 0 a0), some (y_bo 0 0 a1), some (y_bi x2), some (y_bi x3), none, none, none, none]) (S' := [y_bi v3]) rfl rfl rfl))))))
set_option maxRecDepth 4000 in
theorem y_E_77_25 (d : Nat) (a0 : Nat) (a1 : Nat) (x2 : Int) (x3 : Int) (x4 : Int) (m : y_m) : y_R sp ph d 77 25 [some (y_bo 8 0 a0), some (y_bo 0 0 a1), some (y_bi x2), some (y_bi x3), some (y_bi x4), none, none, none] [] m = y_bI (y_V sp ph d 65 [y_bo 8 0 a0, y_bi 1] m) (fun v1 m1 => y_bI (y_V sp ph d 47 [y_bo 0 0 a1, y_bi v1, y_bi x2, y_bi x3] m1) (fun v2 m2 => y_bI (y_V sp ph d 65 [y_bo 8 0 a0, y_bi (x4 + 1)] m2) (fun v3 m3 => if ¬ z_w v3 = z_w v2 then y_R sp ph d 77 55 [some (y_bo 8 0 a0), some (y_bo 0 0 a1), some (y_bi x2), some (y_bi x3), some (y_bi x4), none, none, none] [] m3 else y_R sp ph d 77 56 [some (y_bo 8 0 a0), some (y_bo 0 0 a1), some (y_bi x2), some (y_bi x3), some (y_bi x4), none, none, none] [y_bi 1] m3) (fun e m1 => y_px e m1)) (fun e m1 => y_px e m1)) (fun e m1 => y_px e m1) := by
  rw [y_R_eq (md := z_md_77) rfl rfl]
  exact (y_bIc fun v1 m1 => (y_sh (L' := [some (y_bo 8 0 a0), some (y_bo 0 0 a1), some (y_bi x2), some (y_bi x3), some (y_bi x4), none, none, none]) (S' := [y_bi v1, y_bo 0 0 a1]) rfl rfl (y_bIc fun v2 m2 => (y_sh (L' := [some (y_bo 8 0 a0), some (y_bo 0 0 a1), some (y_bi x2), some (y_bi x3), some (y_bi x4), none, none, none]) (S' := [y_bi v2]) rfl rfl (y_bIc fun v3 m3 => (y_sh (L' := [some (y_bo 8 0 a0), some (y_bo 0 0 a1), some (y_bi x2), some (y_bi x3), some (y_bi x4), some (y_bi v2), none, none]) (S' := [y_bi v3]) rfl rfl rfl))))))
set_option maxRecDepth 4000 in
theorem y_E_77_55 (d : Nat) (a0 : Nat) (a1 : Nat) (x2 : Int) (x3 : Int) (x4 : Int) (m : y_m) : y_R sp ph d 77 55 [some (y_bo 8 0 a0), some (y_bo 0 0 a1), some (y_bi x2), some (y_bi x3), some (y_bi x4), none, none, none] [] m = y_R sp ph d 77 56 [some (y_bo 8 0 a0), some (y_bo 0 0 a1), some (y_bi x2), some (y_bi x3), some (y_bi x4), none, none, none] [y_bi (-1)] m := (y_R_eq (md := z_md_77) rfl rfl).trans rfl
set_option maxRecDepth 4000 in
theorem y_E_77_56 (d : Nat) (a0 : Nat) (a1 : Nat) (x2 : Int) (x3 : Int) (x4 : Int) (xs0 : Int) (m : y_m) : y_R sp ph d 77 56 [some (y_bo 8 0 a0), some (y_bo 0 0 a1), some (y_bi x2), some (y_bi x3), some (y_bi x4), none, none, none] [y_bi xs0] m = y_R sp ph d 77 61 [some (y_bo 8 0 a0), some (y_bo 0 0 a1), some (y_bi x2), some (y_bi x3), some (y_bi x4), none, some (y_bi xs0), some (y_bi 1)] [] m := (y_R_eq (md := z_md_77) rfl rfl).trans rfl
set_option maxRecDepth 4000 in
theorem y_E_77_61 (d : Nat) (a0 : Nat) (a1 : Nat) (x2 : Int) (x3 : Int) (x4 : Int) (x6 : Int) (x7 : Int) (m : y_m) : y_R sp ph d 77 61 [some (y_bo 8 0 a0), some (y_bo 0 0 a1), some (y_bi x2), some (y_bi x3), some (y_bi x4), none, some (y_bi x6), some (y_bi x7)] [] m = if z_w (y_mI m a0 1) ≤ z_w x7 then y_R sp ph d 77 105 [none, none, none, none, none, none, none, none] [] m else y_bI (y_V sp ph d 65 [y_bo 8 0 a0, y_bi (x4 + (x6 * x7))] m) (fun v1 m1 => y_bI (y_V sp ph d 65 [y_bo 8 0 a0, y_bi x7] m1) (fun v2 m2 => y_bI (y_V sp ph d 47 [y_bo 0 0 a1, y_bi v2, y_bi x2, y_bi x3] m2) (fun v3 m3 => if z_w v1 = z_w v3 then y_R sp ph d 77 99 [some (y_bo 8 0 a0), some (y_bo 0 0 a1), some (y_bi x2), some (y_bi x3), some (y_bi x4), none, some (y_bi x6), some (y_bi x7)] [] m3 else y_rI 0 m3) (fun e m1 => y_px e m1)) (fun e m1 => y_px e m1)) (fun e m1 => y_px e m1) := by
  rw [y_R_eq (md := z_md_77) rfl rfl]
  exact (y_ic rfl (y_bIc fun v1 m1 => (y_sh (L' := [some (y_bo 8 0 a0), some (y_bo 0 0 a1), some (y_bi x2), some (y_bi x3), some (y_bi x4), none, some (y_bi x6), some (y_bi x7)]) (S' := [y_bi v1]) rfl rfl (y_bIc fun v2 m2 => (y_sh (L' := [some (y_bo 8 0 a0), some (y_bo 0 0 a1), some (y_bi x2), some (y_bi x3), some (y_bi x4), none, some (y_bi x6), some (y_bi x7)]) (S' := [y_bi v2, y_bo 0 0 a1, y_bi v1]) rfl rfl (y_bIc fun v3 m3 => (y_sh (L' := [some (y_bo 8 0 a0), some (y_bo 0 0 a1), some (y_bi x2), some (y_bi x3), some (y_bi x4), none, some (y_bi x6), some (y_bi x7)]) (S' := [y_bi v3, y_bi v1]) rfl rfl rfl)))))))
set_option maxRecDepth 4000 in
theorem y_E_77_99 (d : Nat) (a0 : Nat) (a1 : Nat) (x2 : Int) (x3 : Int) (x4 : Int) (x6 : Int) (x7 : Int) (m : y_m) : y_R sp ph d 77 99 [some (y_bo 8 0 a0), some (y_bo 0 0 a1), some (y_bi x2), some (y_bi x3), some (y_bi x4), none, some (y_bi x6), some (y_bi x7)] [] m = y_R sp ph d 77 61 [some (y_bo 8 0 a0), some (y_bo 0 0 a1), some (y_bi x2), some (y_bi x3), some (y_bi x4), none, some (y_bi x6), some (y_bi (x7 + 1))] [] m := (y_R_eq (md := z_md_77) rfl rfl).trans rfl
set_option maxRecDepth 4000 in
theorem y_E_77_105 (d : Nat) (m : y_m) : y_R sp ph d 77 105 [none, none, none, none, none, none, none, none] [] m = y_rI 1 m := (y_R_eq (md := z_md_77) rfl rfl).trans rfl
set_option maxRecDepth 4000 in
theorem y_C_77 (d : Nat) (a0 : Nat) (a1 : Nat) (x2 : Int) (x3 : Int) (m : y_m) : y_V sp ph (d + 1) 77 [y_bo 8 0 a0, y_bo 0 0 a1, y_bi x2, y_bi x3] m = y_R sp ph d 77 0 [some (y_bo 8 0 a0), some (y_bo 0 0 a1), some (y_bi x2), some (y_bi x3), none, none, none, none] [] m := (y_V_eq (md := z_md_77) rfl rfl rfl).trans rfl
/-! LacedHoles$Picture.clear ()V -/
set_option maxRecDepth 4000 in
theorem y_E_79_0 (d : Nat) (a0 : Nat) (m : y_m) : y_R sp ph d 79 0 [some (y_bo 3 0 a0)] [] m = y_rV (y_sI (y_sI m a0 1 0) a0 2 0) := (y_R_eq (md := z_md_79) rfl rfl).trans rfl
set_option maxRecDepth 4000 in
theorem y_C_79 (d : Nat) (a0 : Nat) (m : y_m) : y_V sp ph (d + 1) 79 [y_bo 3 0 a0] m = y_R sp ph d 79 0 [some (y_bo 3 0 a0)] [] m := (y_V_eq (md := z_md_79) rfl rfl rfl).trans rfl
/-! LacedHoles$Picture.become (LLacedHoles$Picture;)V -/
set_option maxRecDepth 4000 in
theorem y_E_80_0 (d : Nat) (a0 : Nat) (a1 : Nat) (m : y_m) : y_R sp ph d 80 0 [some (y_bo 3 0 a0), some (y_bo 3 0 a1), none] [] m = y_R sp ph d 80 18 [some (y_bo 3 0 a0), some (y_bo 3 0 a1), some (y_bi 0)] [] (y_sI (y_sI m a0 1 (y_mI m a1 1)) a0 2 (y_mI (y_sI m a0 1 (y_mI m a1 1)) a1 2)) := (y_R_eq (md := z_md_80) rfl rfl).trans rfl
set_option maxRecDepth 4000 in
theorem y_E_80_18 (d : Nat) (a0 : Nat) (a1 : Nat) (x2 : Int) (m : y_m) : y_R sp ph d 80 18 [some (y_bo 3 0 a0), some (y_bo 3 0 a1), some (y_bi x2)] [] m = if 12 ≤ z_w x2 then y_R sp ph d 80 46 [none, none, none] [] m else y_bI (y_V sp ph d 7 [y_bo 100 12 (a1 + 1), y_bi x2] m) (fun v1 m1 => y_bV (y_V sp ph d 8 [y_bo 100 12 (a0 + 1), y_bi x2, y_bi v1] m1) (fun m2 => y_R sp ph d 80 18 [some (y_bo 3 0 a0), some (y_bo 3 0 a1), some (y_bi (x2 + 1))] [] m2) (fun e m1 => y_px e m1)) (fun e m1 => y_px e m1) := by
  rw [y_R_eq (md := z_md_80) rfl rfl]
  exact (y_ic rfl (y_bIc fun v1 m1 => (y_sh (L' := [some (y_bo 3 0 a0), some (y_bo 3 0 a1), some (y_bi x2)]) (S' := [y_bi v1, y_bi x2, y_bo 100 12 (a0 + 1)]) rfl rfl (y_bVc fun m2 => (y_sh (L' := [some (y_bo 3 0 a0), some (y_bo 3 0 a1), some (y_bi x2)]) (S' := []) rfl rfl rfl)))))
set_option maxRecDepth 4000 in
theorem y_E_80_46 (d : Nat) (m : y_m) : y_R sp ph d 80 46 [none, none, none] [] m = y_rV m := (y_R_eq (md := z_md_80) rfl rfl).trans rfl
set_option maxRecDepth 4000 in
theorem y_C_80 (d : Nat) (a0 : Nat) (a1 : Nat) (m : y_m) : y_V sp ph (d + 1) 80 [y_bo 3 0 a0, y_bo 3 0 a1] m = y_R sp ph d 80 0 [some (y_bo 3 0 a0), some (y_bo 3 0 a1), none] [] m := (y_V_eq (md := z_md_80) rfl rfl rfl).trans rfl
/-! LacedHoles$Picture.partner (I)I -/
set_option maxRecDepth 4000 in
theorem y_E_81_0 (d : Nat) (a0 : Nat) (x1 : Int) (m : y_m) : y_R sp ph d 81 0 [some (y_bo 3 0 a0), some (y_bi x1)] [] m = if ¬ z_w (z_iand (z_ishr (y_mI m a0 2) x1) 1) = 0 then y_R sp ph d 81 15 [some (y_bo 3 0 a0), some (y_bi x1)] [] m else y_R sp ph d 81 23 [none, none] [y_bi (-1)] m := (y_R_eq (md := z_md_81) rfl rfl).trans rfl
set_option maxRecDepth 4000 in
theorem y_E_81_15 (d : Nat) (a0 : Nat) (x1 : Int) (m : y_m) : y_R sp ph d 81 15 [some (y_bo 3 0 a0), some (y_bi x1)] [] m = y_bI (y_V sp ph d 7 [y_bo 100 12 (a0 + 1), y_bi x1] m) (fun v1 m1 => y_R sp ph d 81 23 [none, none] [y_bi v1] m1) (fun e m1 => y_px e m1) := by
  rw [y_R_eq (md := z_md_81) rfl rfl]
  exact (y_bIc fun v1 m1 => (y_sh (L' := [some (y_bo 3 0 a0), some (y_bi x1)]) (S' := [y_bi v1]) rfl rfl rfl))
set_option maxRecDepth 4000 in
theorem y_E_81_23 (d : Nat) (xs0 : Int) (m : y_m) : y_R sp ph d 81 23 [none, none] [y_bi xs0] m = y_rI xs0 m := (y_R_eq (md := z_md_81) rfl rfl).trans rfl
set_option maxRecDepth 4000 in
theorem y_C_81 (d : Nat) (a0 : Nat) (x1 : Int) (m : y_m) : y_V sp ph (d + 1) 81 [y_bo 3 0 a0, y_bi x1] m = y_R sp ph d 81 0 [some (y_bo 3 0 a0), some (y_bi x1)] [] m := (y_V_eq (md := z_md_81) rfl rfl rfl).trans rfl
/-! LacedHoles$Picture.join (II)Z -/
set_option maxRecDepth 4000 in
theorem y_E_82_0 (d : Nat) (a0 : Nat) (x1 : Int) (x2 : Int) (m : y_m) : y_R sp ph d 82 0 [some (y_bo 3 0 a0), some (y_bi x1), some (y_bi x2), none] [] m = if 6 ≤ z_w (y_mI m a0 1) then y_R sp ph d 82 26 [none, none, none, none] [] m else if z_w (z_iand (y_mI m a0 2) (z_ior (z_ishl 1 x1) (z_ishl 1 x2))) = 0 then y_R sp ph d 82 28 [some (y_bo 3 0 a0), some (y_bi x1), some (y_bi x2), some (y_bi (z_ior (z_ishl 1 x1) (z_ishl 1 x2)))] [] m else y_R sp ph d 82 26 [none, none, none, none] [] m := (y_R_eq (md := z_md_82) rfl rfl).trans rfl
set_option maxRecDepth 4000 in
theorem y_E_82_26 (d : Nat) (m : y_m) : y_R sp ph d 82 26 [none, none, none, none] [] m = y_rI 0 m := (y_R_eq (md := z_md_82) rfl rfl).trans rfl
set_option maxRecDepth 4000 in
theorem y_E_82_28 (d : Nat) (a0 : Nat) (x1 : Int) (x2 : Int) (x3 : Int) (m : y_m) : y_R sp ph d 82 28 [some (y_bo 3 0 a0), some (y_bi x1), some (y_bi x2), some (y_bi x3)] [] m = y_bV (y_V sp ph d 8 [y_bo 100 12 (a0 + 1), y_bi x1, y_bi x2] m) (fun m1 => y_bV (y_V sp ph d 8 [y_bo 100 12 (a0 + 1), y_bi x2, y_bi x1] m1) (fun m2 => y_rI 1 (y_sI (y_sI m2 a0 2 (z_ior (y_mI m2 a0 2) x3)) a0 1 ((y_mI (y_sI m2 a0 2 (z_ior (y_mI m2 a0 2) x3)) a0 1) + 1))) (fun e m1 => y_px e m1)) (fun e m1 => y_px e m1) := by
  rw [y_R_eq (md := z_md_82) rfl rfl]
  exact (y_bVc fun m1 => (y_sh (L' := [some (y_bo 3 0 a0), some (y_bi x1), some (y_bi x2), some (y_bi x3)]) (S' := []) rfl rfl (y_bVc fun m2 => (y_sh (L' := [some (y_bo 3 0 a0), some (y_bi x1), some (y_bi x2), some (y_bi x3)]) (S' := []) rfl rfl rfl))))
set_option maxRecDepth 4000 in
theorem y_C_82 (d : Nat) (a0 : Nat) (x1 : Int) (x2 : Int) (m : y_m) : y_V sp ph (d + 1) 82 [y_bo 3 0 a0, y_bi x1, y_bi x2] m = y_R sp ph d 82 0 [some (y_bo 3 0 a0), some (y_bi x1), some (y_bi x2), none] [] m := (y_V_eq (md := z_md_82) rfl rfl rfl).trans rfl
/-! LacedHoles$Picture.seenOf (LLacedHoles$Way;)I -/
set_option maxRecDepth 4000 in
theorem y_E_83_0 (d : Nat) (a0 : Nat) (a1 : Nat) (m : y_m) : y_R sp ph d 83 0 [some (y_bo 3 0 a0), some (y_bo 8 0 a1)] [] m = if z_w (y_mI m a1 1) = z_w (2 * (y_mI m a0 1)) then y_R sp ph d 83 15 [some (y_bo 3 0 a0), some (y_bo 8 0 a1)] [] m else y_rI 0 m := (y_R_eq (md := z_md_83) rfl rfl).trans rfl
set_option maxRecDepth 4000 in
theorem y_E_83_15 (d : Nat) (a0 : Nat) (a1 : Nat) (m : y_m) : y_R sp ph d 83 15 [some (y_bo 3 0 a0), some (y_bo 8 0 a1)] [] m = y_bI (y_V sp ph d 84 [y_bo 3 0 a0, y_bo 8 0 a1, y_bi 0] m) (fun v1 m1 => if z_w v1 = 0 then y_R sp ph d 83 26 [some (y_bo 3 0 a0), some (y_bo 8 0 a1)] [] m1 else y_rI 1 m1) (fun e m1 => y_px e m1) := by
  rw [y_R_eq (md := z_md_83) rfl rfl]
  exact (y_bIc fun v1 m1 => (y_sh (L' := [some (y_bo 3 0 a0), some (y_bo 8 0 a1)]) (S' := [y_bi v1]) rfl rfl rfl))
set_option maxRecDepth 4000 in
theorem y_E_83_26 (d : Nat) (a0 : Nat) (a1 : Nat) (m : y_m) : y_R sp ph d 83 26 [some (y_bo 3 0 a0), some (y_bo 8 0 a1)] [] m = y_bI (y_V sp ph d 84 [y_bo 3 0 a0, y_bo 8 0 a1, y_bi 1] m) (fun v1 m1 => if z_w v1 = 0 then y_R sp ph d 83 39 [none, none] [] m1 else y_R sp ph d 83 40 [none, none] [y_bi 2] m1) (fun e m1 => y_px e m1) := by
  rw [y_R_eq (md := z_md_83) rfl rfl]
  exact (y_bIc fun v1 m1 => (y_sh (L' := [some (y_bo 3 0 a0), some (y_bo 8 0 a1)]) (S' := [y_bi v1]) rfl rfl rfl))
set_option maxRecDepth 4000 in
theorem y_E_83_39 (d : Nat) (m : y_m) : y_R sp ph d 83 39 [none, none] [] m = y_R sp ph d 83 40 [none, none] [y_bi 0] m := (y_R_eq (md := z_md_83) rfl rfl).trans rfl
set_option maxRecDepth 4000 in
theorem y_E_83_40 (d : Nat) (xs0 : Int) (m : y_m) : y_R sp ph d 83 40 [none, none] [y_bi xs0] m = y_rI xs0 m := (y_R_eq (md := z_md_83) rfl rfl).trans rfl
set_option maxRecDepth 4000 in
theorem y_C_83 (d : Nat) (a0 : Nat) (a1 : Nat) (m : y_m) : y_V sp ph (d + 1) 83 [y_bo 3 0 a0, y_bo 8 0 a1] m = y_R sp ph d 83 0 [some (y_bo 3 0 a0), some (y_bo 8 0 a1)] [] m := (y_V_eq (md := z_md_83) rfl rfl rfl).trans rfl
/-! LacedHoles$Picture.isEachSecond (LLacedHoles$Way;I)Z -/
set_option maxRecDepth 4000 in
theorem y_E_84_0 (d : Nat) (a0 : Nat) (a1 : Nat) (x2 : Int) (m : y_m) : y_R sp ph d 84 0 [some (y_bo 3 0 a0), some (y_bo 8 0 a1), some (y_bi x2), none] [] m = y_R sp ph d 84 2 [some (y_bo 3 0 a0), some (y_bo 8 0 a1), none, some (y_bi x2)] [] m := (y_R_eq (md := z_md_84) rfl rfl).trans rfl
set_option maxRecDepth 4000 in
theorem y_E_84_2 (d : Nat) (a0 : Nat) (a1 : Nat) (x3 : Int) (m : y_m) : y_R sp ph d 84 2 [some (y_bo 3 0 a0), some (y_bo 8 0 a1), none, some (y_bi x3)] [] m = if z_w (y_mI m a1 1) ≤ z_w x3 then y_R sp ph d 84 37 [none, none, none, none] [] m else y_bI (y_V sp ph d 65 [y_bo 8 0 a1, y_bi x3] m) (fun v1 m1 => y_bI (y_V sp ph d 81 [y_bo 3 0 a0, y_bi v1] m1) (fun v2 m2 => y_bI (y_V sp ph d 65 [y_bo 8 0 a1, y_bi (x3 + 1)] m2) (fun v3 m3 => if z_w v2 = z_w v3 then y_R sp ph d 84 31 [some (y_bo 3 0 a0), some (y_bo 8 0 a1), none, some (y_bi x3)] [] m3 else y_rI 0 m3) (fun e m1 => y_px e m1)) (fun e m1 => y_px e m1)) (fun e m1 => y_px e m1) := by
  rw [y_R_eq (md := z_md_84) rfl rfl]
  exact (y_ic rfl (y_bIc fun v1 m1 => (y_sh (L' := [some (y_bo 3 0 a0), some (y_bo 8 0 a1), none, some (y_bi x3)]) (S' := [y_bi v1, y_bo 3 0 a0]) rfl rfl (y_bIc fun v2 m2 => (y_sh (L' := [some (y_bo 3 0 a0), some (y_bo 8 0 a1), none, some (y_bi x3)]) (S' := [y_bi v2]) rfl rfl (y_bIc fun v3 m3 => (y_sh (L' := [some (y_bo 3 0 a0), some (y_bo 8 0 a1), none, some (y_bi x3)]) (S' := [y_bi v3, y_bi v2]) rfl rfl rfl)))))))
set_option maxRecDepth 4000 in
theorem y_E_84_31 (d : Nat) (a0 : Nat) (a1 : Nat) (x3 : Int) (m : y_m) : y_R sp ph d 84 31 [some (y_bo 3 0 a0), some (y_bo 8 0 a1), none, some (y_bi x3)] [] m = y_R sp ph d 84 2 [some (y_bo 3 0 a0), some (y_bo 8 0 a1), none, some (y_bi (x3 + 2))] [] m := (y_R_eq (md := z_md_84) rfl rfl).trans rfl
set_option maxRecDepth 4000 in
theorem y_E_84_37 (d : Nat) (m : y_m) : y_R sp ph d 84 37 [none, none, none, none] [] m = y_rI 1 m := (y_R_eq (md := z_md_84) rfl rfl).trans rfl
set_option maxRecDepth 4000 in
theorem y_C_84 (d : Nat) (a0 : Nat) (a1 : Nat) (x2 : Int) (m : y_m) : y_V sp ph (d + 1) 84 [y_bo 3 0 a0, y_bo 8 0 a1, y_bi x2] m = y_R sp ph d 84 0 [some (y_bo 3 0 a0), some (y_bo 8 0 a1), some (y_bi x2), none] [] m := (y_V_eq (md := z_md_84) rfl rfl rfl).trans rfl
/-! LacedHoles$Scene.clear ()V -/
set_option maxRecDepth 4000 in
theorem y_E_86_0 (d : Nat) (a0 : Nat) (m : y_m) : y_R sp ph d 86 0 [some (y_bo 5 0 a0)] [] m = y_bV (y_V sp ph d 62 [y_bo 8 0 (a0 + 1)] m) (fun m1 => y_bV (y_V sp ph d 79 [y_bo 3 0 (a0 + 3)] m1) (fun m2 => y_rV (y_sI m2 a0 3 0)) (fun e m1 => y_px e m1)) (fun e m1 => y_px e m1) := by
  rw [y_R_eq (md := z_md_86) rfl rfl]
  exact (y_bVc fun m1 => (y_sh (L' := [some (y_bo 5 0 a0)]) (S' := []) rfl rfl (y_bVc fun m2 => (y_sh (L' := [some (y_bo 5 0 a0)]) (S' := []) rfl rfl rfl))))
set_option maxRecDepth 4000 in
theorem y_C_86 (d : Nat) (a0 : Nat) (m : y_m) : y_V sp ph (d + 1) 86 [y_bo 5 0 a0] m = y_R sp ph d 86 0 [some (y_bo 5 0 a0)] [] m := (y_V_eq (md := z_md_86) rfl rfl rfl).trans rfl
/-! LacedHoles$Scene.become (LLacedHoles$Scene;)V -/
set_option maxRecDepth 4000 in
theorem y_E_87_0 (d : Nat) (a0 : Nat) (a1 : Nat) (m : y_m) : y_R sp ph d 87 0 [some (y_bo 5 0 a0), some (y_bo 5 0 a1), none] [] m = y_bV (y_V sp ph d 64 [y_bo 8 0 (a0 + 1), y_bo 8 0 (a1 + 1)] m) (fun m1 => y_bV (y_V sp ph d 80 [y_bo 3 0 (a0 + 3), y_bo 3 0 (a1 + 3)] m1) (fun m2 => y_R sp ph d 87 32 [some (y_bo 5 0 a0), some (y_bo 5 0 a1), some (y_bi 0)] [] (y_sI m2 a0 3 (y_mI m2 a1 3))) (fun e m1 => y_px e m1)) (fun e m1 => y_px e m1) := by
  rw [y_R_eq (md := z_md_87) rfl rfl]
  exact (y_bVc fun m1 => (y_sh (L' := [some (y_bo 5 0 a0), some (y_bo 5 0 a1), none]) (S' := []) rfl rfl (y_bVc fun m2 => (y_sh (L' := [some (y_bo 5 0 a0), some (y_bo 5 0 a1), none]) (S' := []) rfl rfl rfl))))
set_option maxRecDepth 4000 in
theorem y_E_87_32 (d : Nat) (a0 : Nat) (a1 : Nat) (x2 : Int) (m : y_m) : y_R sp ph d 87 32 [some (y_bo 5 0 a0), some (y_bo 5 0 a1), some (y_bi x2)] [] m = if z_w (48 : Int) ≤ z_w x2 then y_R sp ph d 87 63 [none, none, none] [] m else y_bI (y_V sp ph d 7 [y_bo 100 48 (a1 + 5), y_bi x2] m) (fun v1 m1 => y_bV (y_V sp ph d 8 [y_bo 100 48 (a0 + 5), y_bi x2, y_bi v1] m1) (fun m2 => y_R sp ph d 87 32 [some (y_bo 5 0 a0), some (y_bo 5 0 a1), some (y_bi (x2 + 1))] [] m2) (fun e m1 => y_px e m1)) (fun e m1 => y_px e m1) := by
  rw [y_R_eq (md := z_md_87) rfl rfl]
  exact (y_ic rfl (y_bIc fun v1 m1 => (y_sh (L' := [some (y_bo 5 0 a0), some (y_bo 5 0 a1), some (y_bi x2)]) (S' := [y_bi v1, y_bi x2, y_bo 100 48 (a0 + 5)]) rfl rfl (y_bVc fun m2 => (y_sh (L' := [some (y_bo 5 0 a0), some (y_bo 5 0 a1), some (y_bi x2)]) (S' := []) rfl rfl rfl)))))
set_option maxRecDepth 4000 in
theorem y_E_87_63 (d : Nat) (m : y_m) : y_R sp ph d 87 63 [none, none, none] [] m = y_rV m := (y_R_eq (md := z_md_87) rfl rfl).trans rfl
set_option maxRecDepth 4000 in
theorem y_C_87 (d : Nat) (a0 : Nat) (a1 : Nat) (m : y_m) : y_V sp ph (d + 1) 87 [y_bo 5 0 a0, y_bo 5 0 a1] m = y_R sp ph d 87 0 [some (y_bo 5 0 a0), some (y_bo 5 0 a1), none] [] m := (y_V_eq (md := z_md_87) rfl rfl rfl).trans rfl
/-! LacedHoles$Scene.keptWear (II)I -/
set_option maxRecDepth 4000 in
theorem y_E_88_0 (d : Nat) (a0 : Nat) (x1 : Int) (x2 : Int) (m : y_m) : y_R sp ph d 88 0 [some (y_bo 5 0 a0), some (y_bi x1), some (y_bi x2)] [] m = y_bI (y_V sp ph d 7 [y_bo 100 48 (a0 + 5), y_bi ((x1 * 12) + x2)] m) (fun v1 m1 => y_rI v1 m1) (fun e m1 => y_px e m1) := by
  rw [y_R_eq (md := z_md_88) rfl rfl]
  exact (y_bIc fun v1 m1 => (y_sh (L' := [some (y_bo 5 0 a0), some (y_bi x1), some (y_bi x2)]) (S' := [y_bi v1]) rfl rfl rfl))
set_option maxRecDepth 4000 in
theorem y_C_88 (d : Nat) (a0 : Nat) (x1 : Int) (x2 : Int) (m : y_m) : y_V sp ph (d + 1) 88 [y_bo 5 0 a0, y_bi x1, y_bi x2] m = y_R sp ph d 88 0 [some (y_bo 5 0 a0), some (y_bi x1), some (y_bi x2)] [] m := (y_V_eq (md := z_md_88) rfl rfl rfl).trans rfl
/-! LacedHoles$Scene.keepWear (LLacedHoles$Boot;)Z -/
set_option maxRecDepth 4000 in
theorem y_E_89_0 (d : Nat) (a0 : Nat) (a1 : Nat) (m : y_m) : y_R sp ph d 89 0 [some (y_bo 5 0 a0), some (y_bo 0 0 a1), none] [] m = if z_w (y_mI m a0 3) < 4 then y_R sp ph d 89 10 [some (y_bo 5 0 a0), some (y_bo 0 0 a1), none] [] m else y_rI 0 m := (y_R_eq (md := z_md_89) rfl rfl).trans rfl
set_option maxRecDepth 4000 in
theorem y_E_89_10 (d : Nat) (a0 : Nat) (a1 : Nat) (m : y_m) : y_R sp ph d 89 10 [some (y_bo 5 0 a0), some (y_bo 0 0 a1), none] [] m = y_R sp ph d 89 12 [some (y_bo 5 0 a0), some (y_bo 0 0 a1), some (y_bi 0)] [] m := (y_R_eq (md := z_md_89) rfl rfl).trans rfl
set_option maxRecDepth 4000 in
theorem y_E_89_12 (d : Nat) (a0 : Nat) (a1 : Nat) (x2 : Int) (m : y_m) : y_R sp ph d 89 12 [some (y_bo 5 0 a0), some (y_bo 0 0 a1), some (y_bi x2)] [] m = if 12 ≤ z_w x2 then y_R sp ph d 89 49 [some (y_bo 5 0 a0), none, none] [] m else y_bI (y_V sp ph d 75 [y_bo 8 0 (a0 + 1), y_bo 0 0 a1, y_bi x2] m) (fun v1 m1 => y_bV (y_V sp ph d 8 [y_bo 100 48 (a0 + 5), y_bi (((y_mI m a0 3) * 12) + x2), y_bi v1] m1) (fun m2 => y_R sp ph d 89 12 [some (y_bo 5 0 a0), some (y_bo 0 0 a1), some (y_bi (x2 + 1))] [] m2) (fun e m1 => y_px e m1)) (fun e m1 => y_px e m1) := by
  rw [y_R_eq (md := z_md_89) rfl rfl]
  exact (y_ic rfl (y_bIc fun v1 m1 => (y_sh (L' := [some (y_bo 5 0 a0), some (y_bo 0 0 a1), some (y_bi x2)]) (S' := [y_bi v1, y_bi (((y_mI m a0 3) * 12) + x2), y_bo 100 48 (a0 + 5)]) rfl rfl (y_bVc fun m2 => (y_sh (L' := [some (y_bo 5 0 a0), some (y_bo 0 0 a1), some (y_bi x2)]) (S' := []) rfl rfl rfl)))))
set_option maxRecDepth 4000 in
theorem y_E_89_49 (d : Nat) (a0 : Nat) (m : y_m) : y_R sp ph d 89 49 [some (y_bo 5 0 a0), none, none] [] m = y_rI 1 (y_sI m a0 3 ((y_mI m a0 3) + 1)) := (y_R_eq (md := z_md_89) rfl rfl).trans rfl
set_option maxRecDepth 4000 in
theorem y_C_89 (d : Nat) (a0 : Nat) (a1 : Nat) (m : y_m) : y_V sp ph (d + 1) 89 [y_bo 5 0 a0, y_bo 0 0 a1] m = y_R sp ph d 89 0 [some (y_bo 5 0 a0), some (y_bo 0 0 a1), none] [] m := (y_V_eq (md := z_md_89) rfl rfl rfl).trans rfl
/-! LacedHoles$Counter.lawfulRounds (LLacedHoles$Boot;I)J -/
set_option maxRecDepth 4000 in
theorem y_E_91_0 (d : Nat) (a0 : Nat) (a1 : Nat) (x2 : Int) (m : y_m) : y_R sp ph d 91 0 [some (y_bo 1 0 a0), some (y_bo 0 0 a1), some (y_bi x2), none, none, none, none] [] m = y_bI (y_V sp ph d 94 [y_bo 1 0 a0, y_bo 0 0 a1, y_bi x2] m) (fun v1 m1 => y_R sp ph d 91 13 [some (y_bo 1 0 a0), some (y_bo 0 0 a1), none, some (y_bi v1), some (y_bl 0), none, some (y_bi 0)] [] m1) (fun e m1 => y_px e m1) := by
  rw [y_R_eq (md := z_md_91) rfl rfl]
  exact (y_bIc fun v1 m1 => (y_sh (L' := [some (y_bo 1 0 a0), some (y_bo 0 0 a1), some (y_bi x2), none, none, none, none]) (S' := [y_bi v1]) rfl rfl rfl))
set_option maxRecDepth 4000 in
theorem y_E_91_13 (d : Nat) (a0 : Nat) (a1 : Nat) (x3 : Int) (x4 : Int) (x6 : Int) (m : y_m) : y_R sp ph d 91 13 [some (y_bo 1 0 a0), some (y_bo 0 0 a1), none, some (y_bi x3), some (y_bl x4), none, some (y_bi x6)] [] m = if 12 ≤ z_w x6 then y_R sp ph d 91 44 [none, none, none, none, some (y_bl x4), none, none] [] m else y_bL (y_V sp ph d 96 [y_bo 1 0 a0, y_bo 0 0 a1, y_bi (y_mI m a0 2), y_bi (-1), y_bi x6, y_bi x3] m) (fun v1 m1 => y_R sp ph d 91 13 [some (y_bo 1 0 a0), some (y_bo 0 0 a1), none, some (y_bi x3), some (y_bl (x4 + v1)), none, some (y_bi (x6 + 1))] [] m1) (fun e m1 => y_px e m1) := by
  rw [y_R_eq (md := z_md_91) rfl rfl]
  exact (y_ic rfl (y_bLc fun v1 m1 => (y_sh (L' := [some (y_bo 1 0 a0), some (y_bo 0 0 a1), none, some (y_bi x3), some (y_bl x4), none, some (y_bi x6)]) (S' := [y_bl v1, y_bl x4]) rfl rfl rfl)))
set_option maxRecDepth 4000 in
theorem y_E_91_44 (d : Nat) (x4 : Int) (m : y_m) : y_R sp ph d 91 44 [none, none, none, none, some (y_bl x4), none, none] [] m = y_rL x4 m := (y_R_eq (md := z_md_91) rfl rfl).trans rfl
set_option maxRecDepth 4000 in
theorem y_C_91 (d : Nat) (a0 : Nat) (a1 : Nat) (x2 : Int) (m : y_m) : y_V sp ph (d + 1) 91 [y_bo 1 0 a0, y_bo 0 0 a1, y_bi x2] m = y_R sp ph d 91 0 [some (y_bo 1 0 a0), some (y_bo 0 0 a1), some (y_bi x2), none, none, none, none] [] m := (y_V_eq (md := z_md_91) rfl rfl rfl).trans rfl
/-! LacedHoles$Counter.rank (LLacedHoles$Boot;LLacedHoles$Way;)J -/
set_option maxRecDepth 4000 in
theorem y_E_92_0 (d : Nat) (a0 : Nat) (a1 : Nat) (a2 : Nat) (m : y_m) : y_R sp ph d 92 0 [some (y_bo 1 0 a0), some (y_bo 0 0 a1), some (y_bo 8 0 a2), none, none, none, none, none, none, none] [] m = y_bI (y_V sp ph d 67 [y_bo 8 0 a2] m) (fun v1 m1 => y_bI (y_V sp ph d 94 [y_bo 1 0 a0, y_bo 0 0 a1, y_bi v1] m1) (fun v2 m2 => y_R sp ph d 92 19 [some (y_bo 1 0 a0), some (y_bo 0 0 a1), some (y_bo 8 0 a2), some (y_bi v2), some (y_bi (-1)), some (y_bl 0), none, some (y_bi 1), none, none] [] m2) (fun e m1 => y_px e m1)) (fun e m1 => y_px e m1) := by
  rw [y_R_eq (md := z_md_92) rfl rfl]
  exact (y_bIc fun v1 m1 => (y_sh (L' := [some (y_bo 1 0 a0), some (y_bo 0 0 a1), some (y_bo 8 0 a2), none, none, none, none, none, none, none]) (S' := [y_bi v1, y_bo 0 0 a1, y_bo 1 0 a0]) rfl rfl (y_bIc fun v2 m2 => (y_sh (L' := [some (y_bo 1 0 a0), some (y_bo 0 0 a1), some (y_bo 8 0 a2), none, none, none, none, none, none, none]) (S' := [y_bi v2]) rfl rfl rfl))))
set_option maxRecDepth 4000 in
theorem y_E_92_19 (d : Nat) (a0 : Nat) (a1 : Nat) (a2 : Nat) (x3 : Int) (x4 : Int) (x5 : Int) (x7 : Int) (m : y_m) : y_R sp ph d 92 19 [some (y_bo 1 0 a0), some (y_bo 0 0 a1), some (y_bo 8 0 a2), some (y_bi x3), some (y_bi x4), some (y_bl x5), none, some (y_bi x7), none, none] [] m = if z_w (y_mI m a2 1) ≤ z_w x7 then y_R sp ph d 92 121 [none, none, none, none, none, some (y_bl x5), none, none, none, none] [] m else y_bI (y_V sp ph d 65 [y_bo 8 0 a2, y_bi (x7 - 1)] m) (fun v1 m1 => y_R sp ph d 92 41 [some (y_bo 1 0 a0), some (y_bo 0 0 a1), some (y_bo 8 0 a2), some (y_bi x3), some (y_bi x4), some (y_bl x5), none, some (y_bi x7), some (y_bi v1), some (y_bi 0)] [] m1) (fun e m1 => y_px e m1) := by
  rw [y_R_eq (md := z_md_92) rfl rfl]
  exact (y_ic rfl (y_bIc fun v1 m1 => (y_sh (L' := [some (y_bo 1 0 a0), some (y_bo 0 0 a1), some (y_bo 8 0 a2), some (y_bi x3), some (y_bi x4), some (y_bl x5), none, some (y_bi x7), none, none]) (S' := [y_bi v1]) rfl rfl rfl)))
set_option maxRecDepth 4000 in
theorem y_E_92_41 (d : Nat) (a0 : Nat) (a1 : Nat) (a2 : Nat) (x3 : Int) (x4 : Int) (x5 : Int) (x7 : Int) (x8 : Int) (x9 : Int) (m : y_m) : y_R sp ph d 92 41 [some (y_bo 1 0 a0), some (y_bo 0 0 a1), some (y_bo 8 0 a2), some (y_bi x3), some (y_bi x4), some (y_bl x5), none, some (y_bi x7), some (y_bi x8), some (y_bi x9)] [] m = y_bI (y_V sp ph d 65 [y_bo 8 0 a2, y_bi x7] m) (fun v1 m1 => if z_w v1 ≤ z_w x9 then y_R sp ph d 92 75 [some (y_bo 1 0 a0), some (y_bo 0 0 a1), some (y_bo 8 0 a2), some (y_bi x3), some (y_bi x4), some (y_bl x5), none, some (y_bi x7), some (y_bi x8), none] [] m1 else y_bL (y_V sp ph d 96 [y_bo 1 0 a0, y_bo 0 0 a1, y_bi x8, y_bi x4, y_bi x9, y_bi x3] m1) (fun v2 m2 => y_R sp ph d 92 41 [some (y_bo 1 0 a0), some (y_bo 0 0 a1), some (y_bo 8 0 a2), some (y_bi x3), some (y_bi x4), some (y_bl (x5 + v2)), none, some (y_bi x7), some (y_bi x8), some (y_bi (x9 + 1))] [] m2) (fun e m1 => y_px e m1)) (fun e m1 => y_px e m1) := by
  rw [y_R_eq (md := z_md_92) rfl rfl]
  exact (y_bIc fun v1 m1 => (y_sh (L' := [some (y_bo 1 0 a0), some (y_bo 0 0 a1), some (y_bo 8 0 a2), some (y_bi x3), some (y_bi x4), some (y_bl x5), none, some (y_bi x7), some (y_bi x8), some (y_bi x9)]) (S' := [y_bi v1, y_bi x9]) rfl rfl (y_ic rfl (y_bLc fun v2 m2 => (y_sh (L' := [some (y_bo 1 0 a0), some (y_bo 0 0 a1), some (y_bo 8 0 a2), some (y_bi x3), some (y_bi x4), some (y_bl x5), none, some (y_bi x7), some (y_bi x8), some (y_bi x9)]) (S' := [y_bl v2, y_bl x5]) rfl rfl rfl)))))
set_option maxRecDepth 4000 in
theorem y_E_92_75 (d : Nat) (a0 : Nat) (a1 : Nat) (a2 : Nat) (x3 : Int) (x4 : Int) (x5 : Int) (x7 : Int) (x8 : Int) (m : y_m) : y_R sp ph d 92 75 [some (y_bo 1 0 a0), some (y_bo 0 0 a1), some (y_bo 8 0 a2), some (y_bi x3), some (y_bi x4), some (y_bl x5), none, some (y_bi x7), some (y_bi x8), none] [] m = y_bI (y_V sp ph d 65 [y_bo 8 0 a2, y_bi x7] m) (fun v1 m1 => y_bV (y_V sp ph d 95 [y_bo 1 0 a0, y_bo 0 0 a1, y_bi x4, y_bi v1] m1) (fun m2 => y_bI (y_V sp ph d 65 [y_bo 8 0 a2, y_bi x7] m2) (fun v3 m3 => y_bI (y_V sp ph d 45 [y_bo 0 0 a1, y_bi x8, y_bi v3] m3) (fun v4 m4 => y_bI (y_V sp ph d 65 [y_bo 8 0 a2, y_bi x7] m4) (fun v5 m5 => y_R sp ph d 92 19 [some (y_bo 1 0 a0), some (y_bo 0 0 a1), some (y_bo 8 0 a2), some (y_bi (z_iand x3 (z_ixor (z_ishl 1 v5) (-1)))), some (y_bi v4), some (y_bl x5), none, some (y_bi (x7 + 1)), none, none] [] m5) (fun e m1 => y_px e m1)) (fun e m1 => y_px e m1)) (fun e m1 => y_px e m1)) (fun e m1 => y_px e m1)) (fun e m1 => y_px e m1) := by
  rw [y_R_eq (md := z_md_92) rfl rfl]
  exact (y_bIc fun v1 m1 => (y_sh (L' := [some (y_bo 1 0 a0), some (y_bo 0 0 a1), some (y_bo 8 0 a2), some (y_bi x3), some (y_bi x4), some (y_bl x5), none, some (y_bi x7), some (y_bi x8), none]) (S' := [y_bi v1, y_bi x4, y_bo 0 0 a1, y_bo 1 0 a0]) rfl rfl (y_bVc fun m2 => (y_sh (L' := [some (y_bo 1 0 a0), some (y_bo 0 0 a1), some (y_bo 8 0 a2), some (y_bi x3), some (y_bi x4), some (y_bl x5), none, some (y_bi x7), some (y_bi x8), none]) (S' := []) rfl rfl (y_bIc fun v3 m3 => (y_sh (L' := [some (y_bo 1 0 a0), some (y_bo 0 0 a1), some (y_bo 8 0 a2), some (y_bi x3), some (y_bi x4), some (y_bl x5), none, some (y_bi x7), some (y_bi x8), none]) (S' := [y_bi v3, y_bi x8, y_bo 0 0 a1]) rfl rfl (y_bIc fun v4 m4 => (y_sh (L' := [some (y_bo 1 0 a0), some (y_bo 0 0 a1), some (y_bo 8 0 a2), some (y_bi x3), some (y_bi x4), some (y_bl x5), none, some (y_bi x7), some (y_bi x8), none]) (S' := [y_bi v4]) rfl rfl (y_bIc fun v5 m5 => (y_sh (L' := [some (y_bo 1 0 a0), some (y_bo 0 0 a1), some (y_bo 8 0 a2), some (y_bi x3), some (y_bi v4), some (y_bl x5), none, some (y_bi x7), some (y_bi x8), none]) (S' := [y_bi v5, y_bi 1, y_bi x3]) rfl rfl rfl))))))))))
set_option maxRecDepth 4000 in
theorem y_E_92_121 (d : Nat) (x5 : Int) (m : y_m) : y_R sp ph d 92 121 [none, none, none, none, none, some (y_bl x5), none, none, none, none] [] m = y_rL x5 m := (y_R_eq (md := z_md_92) rfl rfl).trans rfl
set_option maxRecDepth 4000 in
theorem y_C_92 (d : Nat) (a0 : Nat) (a1 : Nat) (a2 : Nat) (m : y_m) : y_V sp ph (d + 1) 92 [y_bo 1 0 a0, y_bo 0 0 a1, y_bo 8 0 a2] m = y_R sp ph d 92 0 [some (y_bo 1 0 a0), some (y_bo 0 0 a1), some (y_bo 8 0 a2), none, none, none, none, none, none, none] [] m := (y_V_eq (md := z_md_92) rfl rfl rfl).trans rfl
/-! LacedHoles$Counter.unrank (LLacedHoles$Boot;IJLLacedHoles$Way;)Z -/
set_option maxRecDepth 4000 in
theorem y_E_93_0 (d : Nat) (a0 : Nat) (a1 : Nat) (x2 : Int) (x3 : Int) (a5 : Nat) (m : y_m) : y_R sp ph d 93 0 [some (y_bo 1 0 a0), some (y_bo 0 0 a1), some (y_bi x2), some (y_bl x3), none, some (y_bo 8 0 a5), none, none, none, none, none, none, none, none, none] [] m = if 0 ≤ z_w (z_lcmp x3 0) then y_R sp ph d 93 8 [some (y_bo 1 0 a0), some (y_bo 0 0 a1), some (y_bi x2), some (y_bl x3), none, some (y_bo 8 0 a5), none, none, none, none, none, none, none, none, none] [] m else y_rI 0 m := (y_R_eq (md := z_md_93) rfl rfl).trans rfl
set_option maxRecDepth 4000 in
theorem y_E_93_8 (d : Nat) (a0 : Nat) (a1 : Nat) (x2 : Int) (x3 : Int) (a5 : Nat) (m : y_m) : y_R sp ph d 93 8 [some (y_bo 1 0 a0), some (y_bo 0 0 a1), some (y_bi x2), some (y_bl x3), none, some (y_bo 8 0 a5), none, none, none, none, none, none, none, none, none] [] m = y_bI (y_V sp ph d 94 [y_bo 1 0 a0, y_bo 0 0 a1, y_bi x2] m) (fun v1 m1 => y_bV (y_V sp ph d 62 [y_bo 8 0 a5] m1) (fun m2 => y_bV (y_V sp ph d 63 [y_bo 8 0 a5, y_bi (y_mI m2 a0 2)] m2) (fun m3 => y_R sp ph d 93 39 [some (y_bo 1 0 a0), some (y_bo 0 0 a1), none, none, none, some (y_bo 8 0 a5), some (y_bi v1), some (y_bi (-1)), some (y_bl x3), none, some (y_bi 1), none, none, none, none] [] m3) (fun e m1 => y_px e m1)) (fun e m1 => y_px e m1)) (fun e m1 => y_px e m1) := by
  rw [y_R_eq (md := z_md_93) rfl rfl]
  exact (y_bIc fun v1 m1 => (y_sh (L' := [some (y_bo 1 0 a0), some (y_bo 0 0 a1), some (y_bi x2), some (y_bl x3), none, some (y_bo 8 0 a5), none, none, none, none, none, none, none, none, none]) (S' := [y_bi v1]) rfl rfl (y_bVc fun m2 => (y_sh (L' := [some (y_bo 1 0 a0), some (y_bo 0 0 a1), some (y_bi x2), some (y_bl x3), none, some (y_bo 8 0 a5), some (y_bi v1), some (y_bi (-1)), some (y_bl x3), none, none, none, none, none, none]) (S' := []) rfl rfl (y_bVc fun m3 => (y_sh (L' := [some (y_bo 1 0 a0), some (y_bo 0 0 a1), some (y_bi x2), some (y_bl x3), none, some (y_bo 8 0 a5), some (y_bi v1), some (y_bi (-1)), some (y_bl x3), none, none, none, none, none, none]) (S' := []) rfl rfl rfl))))))
set_option maxRecDepth 4000 in
theorem y_E_93_39 (d : Nat) (a0 : Nat) (a1 : Nat) (a5 : Nat) (x6 : Int) (x7 : Int) (x8 : Int) (x10 : Int) (m : y_m) : y_R sp ph d 93 39 [some (y_bo 1 0 a0), some (y_bo 0 0 a1), none, none, none, some (y_bo 8 0 a5), some (y_bi x6), some (y_bi x7), some (y_bl x8), none, some (y_bi x10), none, none, none, none] [] m = if 12 ≤ z_w x10 then y_R sp ph d 93 175 [none, none, none, none, none, none, none, none, none, none, none, none, none, none, none] [] m else if z_w x6 = 0 then y_R sp ph d 93 175 [none, none, none, none, none, none, none, none, none, none, none, none, none, none, none] [] m else y_bI (y_V sp ph d 65 [y_bo 8 0 a5, y_bi (x10 - 1)] m) (fun v1 m1 => y_bL (y_V sp ph d 96 [y_bo 1 0 a0, y_bo 0 0 a1, y_bi v1, y_bi x7, y_bi 0, y_bi x6] m1) (fun v2 m2 => y_R sp ph d 93 80 [some (y_bo 1 0 a0), some (y_bo 0 0 a1), none, none, none, some (y_bo 8 0 a5), some (y_bi x6), some (y_bi x7), some (y_bl x8), none, some (y_bi x10), some (y_bi v1), some (y_bi 0), some (y_bl v2), none] [] m2) (fun e m1 => y_px e m1)) (fun e m1 => y_px e m1) := by
  rw [y_R_eq (md := z_md_93) rfl rfl]
  exact (y_ic rfl (y_ic rfl (y_bIc fun v1 m1 => (y_sh (L' := [some (y_bo 1 0 a0), some (y_bo 0 0 a1), none, none, none, some (y_bo 8 0 a5), some (y_bi x6), some (y_bi x7), some (y_bl x8), none, some (y_bi x10), none, none, none, none]) (S' := [y_bi v1]) rfl rfl (y_bLc fun v2 m2 => (y_sh (L' := [some (y_bo 1 0 a0), some (y_bo 0 0 a1), none, none, none, some (y_bo 8 0 a5), some (y_bi x6), some (y_bi x7), some (y_bl x8), none, some (y_bi x10), some (y_bi v1), some (y_bi 0), none, none]) (S' := [y_bl v2]) rfl rfl rfl))))))
set_option maxRecDepth 4000 in
theorem y_E_93_80 (d : Nat) (a0 : Nat) (a1 : Nat) (a5 : Nat) (x6 : Int) (x7 : Int) (x8 : Int) (x10 : Int) (x11 : Int) (x12 : Int) (x13 : Int) (m : y_m) : y_R sp ph d 93 80 [some (y_bo 1 0 a0), some (y_bo 0 0 a1), none, none, none, some (y_bo 8 0 a5), some (y_bi x6), some (y_bi x7), some (y_bl x8), none, some (y_bi x10), some (y_bi x11), some (y_bi x12), some (y_bl x13), none] [] m = if 12 ≤ z_w x12 then y_R sp ph d 93 123 [some (y_bo 1 0 a0), some (y_bo 0 0 a1), none, none, none, some (y_bo 8 0 a5), some (y_bi x6), some (y_bi x7), some (y_bl x8), none, some (y_bi x10), some (y_bi x11), some (y_bi x12), none, none] [] m else if z_w (z_lcmp x8 x13) < 0 then y_R sp ph d 93 123 [some (y_bo 1 0 a0), some (y_bo 0 0 a1), none, none, none, some (y_bo 8 0 a5), some (y_bi x6), some (y_bi x7), some (y_bl x8), none, some (y_bi x10), some (y_bi x11), some (y_bi x12), none, none] [] m else y_bL (y_V sp ph d 96 [y_bo 1 0 a0, y_bo 0 0 a1, y_bi x11, y_bi x7, y_bi (x12 + 1), y_bi x6] m) (fun v1 m1 => y_R sp ph d 93 80 [some (y_bo 1 0 a0), some (y_bo 0 0 a1), none, none, none, some (y_bo 8 0 a5), some (y_bi x6), some (y_bi x7), some (y_bl (x8 - x13)), none, some (y_bi x10), some (y_bi x11), some (y_bi (x12 + 1)), some (y_bl v1), none] [] m1) (fun e m1 => y_px e m1) := by
  rw [y_R_eq (md := z_md_93) rfl rfl]
  exact (y_ic rfl (y_ic rfl (y_bLc fun v1 m1 => (y_sh (L' := [some (y_bo 1 0 a0), some (y_bo 0 0 a1), none, none, none, some (y_bo 8 0 a5), some (y_bi x6), some (y_bi x7), some (y_bl (x8 - x13)), none, some (y_bi x10), some (y_bi x11), some (y_bi (x12 + 1)), some (y_bl x13), none]) (S' := [y_bl v1]) rfl rfl rfl))))
set_option maxRecDepth 4000 in
theorem y_E_93_123 (d : Nat) (a0 : Nat) (a1 : Nat) (a5 : Nat) (x6 : Int) (x7 : Int) (x8 : Int) (x10 : Int) (x11 : Int) (x12 : Int) (m : y_m) : y_R sp ph d 93 123 [some (y_bo 1 0 a0), some (y_bo 0 0 a1), none, none, none, some (y_bo 8 0 a5), some (y_bi x6), some (y_bi x7), some (y_bl x8), none, some (y_bi x10), some (y_bi x11), some (y_bi x12), none, none] [] m = if z_w x12 < 12 then y_R sp ph d 93 132 [some (y_bo 1 0 a0), some (y_bo 0 0 a1), none, none, none, some (y_bo 8 0 a5), some (y_bi x6), some (y_bi x7), some (y_bl x8), none, some (y_bi x10), some (y_bi x11), some (y_bi x12), none, none] [] m else y_rI 0 m := (y_R_eq (md := z_md_93) rfl rfl).trans rfl
set_option maxRecDepth 4000 in
theorem y_E_93_132 (d : Nat) (a0 : Nat) (a1 : Nat) (a5 : Nat) (x6 : Int) (x7 : Int) (x8 : Int) (x10 : Int) (x11 : Int) (x12 : Int) (m : y_m) : y_R sp ph d 93 132 [some (y_bo 1 0 a0), some (y_bo 0 0 a1), none, none, none, some (y_bo 8 0 a5), some (y_bi x6), some (y_bi x7), some (y_bl x8), none, some (y_bi x10), some (y_bi x11), some (y_bi x12), none, none] [] m = y_bV (y_V sp ph d 95 [y_bo 1 0 a0, y_bo 0 0 a1, y_bi x7, y_bi x12] m) (fun m1 => y_bI (y_V sp ph d 45 [y_bo 0 0 a1, y_bi x11, y_bi x12] m1) (fun v2 m2 => y_bV (y_V sp ph d 63 [y_bo 8 0 a5, y_bi x12] m2) (fun m3 => y_R sp ph d 93 39 [some (y_bo 1 0 a0), some (y_bo 0 0 a1), none, none, none, some (y_bo 8 0 a5), some (y_bi (z_iand x6 (z_ixor (z_ishl 1 x12) (-1)))), some (y_bi v2), some (y_bl x8), none, some (y_bi (x10 + 1)), none, none, none, none] [] m3) (fun e m1 => y_px e m1)) (fun e m1 => y_px e m1)) (fun e m1 => y_px e m1) := by
  rw [y_R_eq (md := z_md_93) rfl rfl]
  exact (y_bVc fun m1 => (y_sh (L' := [some (y_bo 1 0 a0), some (y_bo 0 0 a1), none, none, none, some (y_bo 8 0 a5), some (y_bi x6), some (y_bi x7), some (y_bl x8), none, some (y_bi x10), some (y_bi x11), some (y_bi x12), none, none]) (S' := []) rfl rfl (y_bIc fun v2 m2 => (y_sh (L' := [some (y_bo 1 0 a0), some (y_bo 0 0 a1), none, none, none, some (y_bo 8 0 a5), some (y_bi x6), some (y_bi x7), some (y_bl x8), none, some (y_bi x10), some (y_bi x11), some (y_bi x12), none, none]) (S' := [y_bi v2]) rfl rfl (y_bVc fun m3 => (y_sh (L' := [some (y_bo 1 0 a0), some (y_bo 0 0 a1), none, none, none, some (y_bo 8 0 a5), some (y_bi (z_iand x6 (z_ixor (z_ishl 1 x12) (-1)))), some (y_bi v2), some (y_bl x8), none, some (y_bi x10), some (y_bi x11), some (y_bi x12), none, none]) (S' := []) rfl rfl rfl))))))
set_option maxRecDepth 4000 in
theorem y_E_93_175 (d : Nat) (m : y_m) : y_R sp ph d 93 175 [none, none, none, none, none, none, none, none, none, none, none, none, none, none, none] [] m = y_rI 1 m := (y_R_eq (md := z_md_93) rfl rfl).trans rfl
set_option maxRecDepth 4000 in
theorem y_C_93 (d : Nat) (a0 : Nat) (a1 : Nat) (x2 : Int) (x3 : Int) (a5 : Nat) (m : y_m) : y_V sp ph (d + 1) 93 [y_bo 1 0 a0, y_bo 0 0 a1, y_bi x2, y_bl x3, y_bo 8 0 a5] m = y_R sp ph d 93 0 [some (y_bo 1 0 a0), some (y_bo 0 0 a1), some (y_bi x2), some (y_bl x3), none, some (y_bo 8 0 a5), none, none, none, none, none, none, none, none, none] [] m := (y_V_eq (md := z_md_93) rfl rfl rfl).trans rfl
/-! LacedHoles$Counter.begin (LLacedHoles$Boot;I)I -/
set_option maxRecDepth 4000 in
theorem y_E_94_0 (d : Nat) (a0 : Nat) (a1 : Nat) (x2 : Int) (m : y_m) : y_R sp ph d 94 0 [some (y_bo 1 0 a0), some (y_bo 0 0 a1), some (y_bi x2)] [] m = if z_w (y_mI m a0 1) = z_w (y_mI m a1 5) then y_R sp ph d 94 16 [some (y_bo 1 0 a0), none, some (y_bi x2)] [] m else y_bV (y_V sp ph d 102 [y_bo 1 0 a0, y_bo 0 0 a1] m) (fun m1 => y_R sp ph d 94 16 [some (y_bo 1 0 a0), none, some (y_bi x2)] [] m1) (fun e m1 => y_px e m1) := by
  rw [y_R_eq (md := z_md_94) rfl rfl]
  exact (y_ic rfl (y_bVc fun m1 => (y_sh (L' := [some (y_bo 1 0 a0), some (y_bo 0 0 a1), some (y_bi x2)]) (S' := []) rfl rfl rfl)))
set_option maxRecDepth 4000 in
theorem y_E_94_16 (d : Nat) (a0 : Nat) (x2 : Int) (m : y_m) : y_R sp ph d 94 16 [some (y_bo 1 0 a0), none, some (y_bi x2)] [] m = y_bI (y_V sp ph d 0 [y_bi x2] m) (fun v1 m1 => y_rI (z_iand x2 (x2 - 1)) (y_sI m1 a0 2 v1)) (fun e m1 => y_px e m1) := by
  rw [y_R_eq (md := z_md_94) rfl rfl]
  exact (y_bIc fun v1 m1 => (y_sh (L' := [some (y_bo 1 0 a0), none, some (y_bi x2)]) (S' := [y_bi v1, y_bo 1 0 a0]) rfl rfl rfl))
set_option maxRecDepth 4000 in
theorem y_C_94 (d : Nat) (a0 : Nat) (a1 : Nat) (x2 : Int) (m : y_m) : y_V sp ph (d + 1) 94 [y_bo 1 0 a0, y_bo 0 0 a1, y_bi x2] m = y_R sp ph d 94 0 [some (y_bo 1 0 a0), some (y_bo 0 0 a1), some (y_bi x2)] [] m := (y_V_eq (md := z_md_94) rfl rfl rfl).trans rfl
/-! LacedHoles$Counter.settle (LLacedHoles$Boot;II)V -/
set_option maxRecDepth 4000 in
theorem y_E_95_0 (d : Nat) (a0 : Nat) (a1 : Nat) (x2 : Int) (x3 : Int) (m : y_m) : y_R sp ph d 95 0 [some (y_bo 1 0 a0), some (y_bo 0 0 a1), some (y_bi x2), some (y_bi x3)] [] m = if ¬ z_w x2 = (-1) then y_R sp ph d 95 23 [none, none, none, none] [] m else y_bI (y_V sp ph d 45 [y_bo 0 0 a1, y_bi (y_mI (y_sI m a0 3 x3) a0 2), y_bi x3] (y_sI m a0 3 x3)) (fun v1 m1 => y_R sp ph d 95 23 [none, none, none, none] [] (y_sI m1 a0 4 v1)) (fun e m1 => y_px e m1) := by
  rw [y_R_eq (md := z_md_95) rfl rfl]
  exact (y_ic rfl (y_bIc fun v1 m1 => (y_sh (L' := [some (y_bo 1 0 a0), some (y_bo 0 0 a1), some (y_bi x2), some (y_bi x3)]) (S' := [y_bi v1, y_bo 1 0 a0]) rfl rfl rfl)))
set_option maxRecDepth 4000 in
theorem y_E_95_23 (d : Nat) (m : y_m) : y_R sp ph d 95 23 [none, none, none, none] [] m = y_rV m := (y_R_eq (md := z_md_95) rfl rfl).trans rfl
set_option maxRecDepth 4000 in
theorem y_C_95 (d : Nat) (a0 : Nat) (a1 : Nat) (x2 : Int) (x3 : Int) (m : y_m) : y_V sp ph (d + 1) 95 [y_bo 1 0 a0, y_bo 0 0 a1, y_bi x2, y_bi x3] m = y_R sp ph d 95 0 [some (y_bo 1 0 a0), some (y_bo 0 0 a1), some (y_bi x2), some (y_bi x3)] [] m := (y_V_eq (md := z_md_95) rfl rfl rfl).trans rfl
/-! LacedHoles$Counter.follow (LLacedHoles$Boot;IIII)J -/
set_option maxRecDepth 4000 in
theorem y_E_96_0 (d : Nat) (a0 : Nat) (a1 : Nat) (x2 : Int) (x3 : Int) (x4 : Int) (x5 : Int) (m : y_m) : y_R sp ph d 96 0 [some (y_bo 1 0 a0), some (y_bo 0 0 a1), some (y_bi x2), some (y_bi x3), some (y_bi x4), some (y_bi x5), none] [] m = if 12 ≤ z_w x4 then y_R sp ph d 96 17 [none, none, none, none, none, none, none] [] m else if ¬ z_w (z_iand (z_ishr x5 x4) 1) = 0 then y_R sp ph d 96 19 [some (y_bo 1 0 a0), some (y_bo 0 0 a1), some (y_bi x2), some (y_bi x3), some (y_bi x4), some (y_bi x5), none] [] m else y_R sp ph d 96 17 [none, none, none, none, none, none, none] [] m := (y_R_eq (md := z_md_96) rfl rfl).trans rfl
set_option maxRecDepth 4000 in
theorem y_E_96_17 (d : Nat) (m : y_m) : y_R sp ph d 96 17 [none, none, none, none, none, none, none] [] m = y_rL 0 m := (y_R_eq (md := z_md_96) rfl rfl).trans rfl
set_option maxRecDepth 4000 in
theorem y_E_96_19 (d : Nat) (a0 : Nat) (a1 : Nat) (x2 : Int) (x3 : Int) (x4 : Int) (x5 : Int) (m : y_m) : y_R sp ph d 96 19 [some (y_bo 1 0 a0), some (y_bo 0 0 a1), some (y_bi x2), some (y_bi x3), some (y_bi x4), some (y_bi x5), none] [] m = y_bV (y_V sp ph d 95 [y_bo 1 0 a0, y_bo 0 0 a1, y_bi x3, y_bi x4] m) (fun m1 => y_bI (y_V sp ph d 45 [y_bo 0 0 a1, y_bi x2, y_bi x4] m1) (fun v2 m2 => if z_w x3 = (-1) then y_R sp ph d 96 53 [some (y_bo 1 0 a0), some (y_bo 0 0 a1), none, none, some (y_bi x4), some (y_bi x5), some (y_bi v2)] [] m2 else y_bI (y_V sp ph d 46 [y_bo 0 0 a1, y_bi x3, y_bi v2] m2) (fun v3 m3 => if ¬ z_w v3 = 0 then y_R sp ph d 96 53 [some (y_bo 1 0 a0), some (y_bo 0 0 a1), none, none, some (y_bi x4), some (y_bi x5), some (y_bi v2)] [] m3 else y_rL 0 m3) (fun e m1 => y_px e m1)) (fun e m1 => y_px e m1)) (fun e m1 => y_px e m1) := by
  rw [y_R_eq (md := z_md_96) rfl rfl]
  exact (y_bVc fun m1 => (y_sh (L' := [some (y_bo 1 0 a0), some (y_bo 0 0 a1), some (y_bi x2), some (y_bi x3), some (y_bi x4), some (y_bi x5), none]) (S' := []) rfl rfl (y_bIc fun v2 m2 => (y_sh (L' := [some (y_bo 1 0 a0), some (y_bo 0 0 a1), some (y_bi x2), some (y_bi x3), some (y_bi x4), some (y_bi x5), none]) (S' := [y_bi v2]) rfl rfl (y_ic rfl (y_bIc fun v3 m3 => (y_sh (L' := [some (y_bo 1 0 a0), some (y_bo 0 0 a1), some (y_bi x2), some (y_bi x3), some (y_bi x4), some (y_bi x5), some (y_bi v2)]) (S' := [y_bi v3]) rfl rfl rfl)))))))
set_option maxRecDepth 4000 in
theorem y_E_96_53 (d : Nat) (a0 : Nat) (a1 : Nat) (x4 : Int) (x5 : Int) (x6 : Int) (m : y_m) : y_R sp ph d 96 53 [some (y_bo 1 0 a0), some (y_bo 0 0 a1), none, none, some (y_bi x4), some (y_bi x5), some (y_bi x6)] [] m = y_bL (y_V sp ph d 97 [y_bo 1 0 a0, y_bo 0 0 a1, y_bi x4, y_bi x6, y_bi (z_iand x5 (z_ixor (z_ishl 1 x4) (-1)))] m) (fun v1 m1 => y_rL v1 m1) (fun e m1 => y_px e m1) := by
  rw [y_R_eq (md := z_md_96) rfl rfl]
  exact (y_bLc fun v1 m1 => (y_sh (L' := [some (y_bo 1 0 a0), some (y_bo 0 0 a1), none, none, some (y_bi x4), some (y_bi x5), some (y_bi x6)]) (S' := [y_bl v1]) rfl rfl rfl))
set_option maxRecDepth 4000 in
theorem y_C_96 (d : Nat) (a0 : Nat) (a1 : Nat) (x2 : Int) (x3 : Int) (x4 : Int) (x5 : Int) (m : y_m) : y_V sp ph (d + 1) 96 [y_bo 1 0 a0, y_bo 0 0 a1, y_bi x2, y_bi x3, y_bi x4, y_bi x5] m = y_R sp ph d 96 0 [some (y_bo 1 0 a0), some (y_bo 0 0 a1), some (y_bi x2), some (y_bi x3), some (y_bi x4), some (y_bi x5), none] [] m := (y_V_eq (md := z_md_96) rfl rfl rfl).trans rfl
/-! LacedHoles$Counter.completions (LLacedHoles$Boot;III)J -/
set_option maxRecDepth 4000 in
theorem y_E_97_0 (d : Nat) (a0 : Nat) (a1 : Nat) (x2 : Int) (x3 : Int) (x4 : Int) (m : y_m) : y_R sp ph d 97 0 [some (y_bo 1 0 a0), some (y_bo 0 0 a1), some (y_bi x2), some (y_bi x3), some (y_bi x4), none, none, none, none, none, none, none, none] [] m = if ¬ z_w x4 = 0 then y_R sp ph d 97 65 [some (y_bo 1 0 a0), some (y_bo 0 0 a1), some (y_bi x2), some (y_bi x3), some (y_bi x4), none, none, none, none, none, none, none, none] [] m else y_bI (y_V sp ph d 45 [y_bo 0 0 a1, y_bi x2, y_bi (y_mI m a0 2)] m) (fun v1 m1 => y_bI (y_V sp ph d 46 [y_bo 0 0 a1, y_bi x3, y_bi v1] m1) (fun v2 m2 => if z_w v2 = 0 then y_R sp ph d 97 43 [some (y_bo 1 0 a0), none, some (y_bi x2), none, none, none, none, none, none, none, none, none, none] [] m2 else y_bI (y_V sp ph d 46 [y_bo 0 0 a1, y_bi v1, y_bi (y_mI m2 a0 4)] m2) (fun v3 m3 => if z_w v3 = 0 then y_R sp ph d 97 43 [some (y_bo 1 0 a0), none, some (y_bi x2), none, none, none, none, none, none, none, none, none, none] [] m3 else y_R sp ph d 97 44 [some (y_bo 1 0 a0), none, some (y_bi x2), none, none, none, none, none, none, none, none, none, none] [y_bi 1] m3) (fun e m1 => y_px e m1)) (fun e m1 => y_px e m1)) (fun e m1 => y_px e m1) := by
  rw [y_R_eq (md := z_md_97) rfl rfl]
  exact (y_ic rfl (y_bIc fun v1 m1 => (y_sh (L' := [some (y_bo 1 0 a0), some (y_bo 0 0 a1), some (y_bi x2), some (y_bi x3), some (y_bi x4), none, none, none, none, none, none, none, none]) (S' := [y_bi v1]) rfl rfl (y_bIc fun v2 m2 => (y_sh (L' := [some (y_bo 1 0 a0), some (y_bo 0 0 a1), some (y_bi x2), some (y_bi x3), some (y_bi x4), some (y_bi v1), none, none, none, none, none, none, none]) (S' := [y_bi v2]) rfl rfl (y_ic rfl (y_bIc fun v3 m3 => (y_sh (L' := [some (y_bo 1 0 a0), some (y_bo 0 0 a1), some (y_bi x2), some (y_bi x3), some (y_bi x4), some (y_bi v1), none, none, none, none, none, none, none]) (S' := [y_bi v3]) rfl rfl rfl))))))))
set_option maxRecDepth 4000 in
theorem y_E_97_43 (d : Nat) (a0 : Nat) (x2 : Int) (m : y_m) : y_R sp ph d 97 43 [some (y_bo 1 0 a0), none, some (y_bi x2), none, none, none, none, none, none, none, none, none, none] [] m = y_R sp ph d 97 44 [some (y_bo 1 0 a0), none, some (y_bi x2), none, none, none, none, none, none, none, none, none, none] [y_bi 0] m := (y_R_eq (md := z_md_97) rfl rfl).trans rfl
set_option maxRecDepth 4000 in
theorem y_E_97_44 (d : Nat) (a0 : Nat) (x2 : Int) (xs0 : Int) (m : y_m) : y_R sp ph d 97 44 [some (y_bo 1 0 a0), none, some (y_bi x2), none, none, none, none, none, none, none, none, none, none] [y_bi xs0] m = if z_w x2 ≤ z_w (y_mI m a0 3) then y_R sp ph d 97 63 [none, none, none, none, none, none, none, none, none, none, none, none, none] [] m else if z_w xs0 = 0 then y_R sp ph d 97 63 [none, none, none, none, none, none, none, none, none, none, none, none, none] [] m else y_R sp ph d 97 64 [none, none, none, none, none, none, none, none, none, none, none, none, none] [y_bl 1] m := (y_R_eq (md := z_md_97) rfl rfl).trans rfl
set_option maxRecDepth 4000 in
theorem y_E_97_63 (d : Nat) (m : y_m) : y_R sp ph d 97 63 [none, none, none, none, none, none, none, none, none, none, none, none, none] [] m = y_R sp ph d 97 64 [none, none, none, none, none, none, none, none, none, none, none, none, none] [y_bl 0] m := (y_R_eq (md := z_md_97) rfl rfl).trans rfl
set_option maxRecDepth 4000 in
theorem y_E_97_64 (d : Nat) (xs0 : Int) (m : y_m) : y_R sp ph d 97 64 [none, none, none, none, none, none, none, none, none, none, none, none, none] [y_bl xs0] m = y_rL xs0 m := (y_R_eq (md := z_md_97) rfl rfl).trans rfl
set_option maxRecDepth 4000 in
theorem y_E_97_65 (d : Nat) (a0 : Nat) (a1 : Nat) (x2 : Int) (x3 : Int) (x4 : Int) (m : y_m) : y_R sp ph d 97 65 [some (y_bo 1 0 a0), some (y_bo 0 0 a1), some (y_bi x2), some (y_bi x3), some (y_bi x4), none, none, none, none, none, none, none, none] [] m = y_bI (y_V sp ph d 1 [y_bi (z_iand x4 ((z_ishl 1 (y_mI m a1 0)) - 1))] m) (fun v1 m1 => y_bI (y_V sp ph d 1 [y_bi (z_iand x4 (z_ixor ((z_ishl 1 (y_mI m a1 0)) - 1) (-1)))] m1) (fun v2 m2 => y_bL (y_V sp ph d 99 [y_bi (v1 - 1)] m2) (fun v3 m3 => y_bL (y_V sp ph d 99 [y_bi v2] m3) (fun v4 m4 => y_bI (y_V sp ph d 1 [y_bi (z_iand (z_ishl (z_ishr x4 ((y_mI m2 a0 3) + 1)) ((y_mI m2 a0 3) + 1)) ((z_ishl 1 (y_mI m a1 0)) - 1))] m4) (fun v5 m5 => y_bL (y_V sp ph d 98 [y_bo 1 0 a0, y_bo 0 0 a1, y_bi x2, y_bi x3, y_bi v1, y_bi v2, y_bi 0] m5) (fun v6 m6 => y_bL (y_V sp ph d 99 [y_bi v1] m6) (fun v7 m7 => y_bL (y_V sp ph d 99 [y_bi (v2 - 1)] m7) (fun v8 m8 => y_bI (y_V sp ph d 1 [y_bi (z_iand (z_ishl (z_ishr x4 ((y_mI m2 a0 3) + 1)) ((y_mI m2 a0 3) + 1)) (z_ixor ((z_ishl 1 (y_mI m a1 0)) - 1) (-1)))] m8) (fun v9 m9 => y_bL (y_V sp ph d 98 [y_bo 1 0 a0, y_bo 0 0 a1, y_bi x2, y_bi x3, y_bi v1, y_bi v2, y_bi 1] m9) (fun v10 m10 => y_rL ((((v3 * v4) * (z_w v5)) * v6) + (((v7 * v8) * (z_w v9)) * v10)) m10) (fun e m1 => y_px e m1)) (fun e m1 => y_px e m1)) (fun e m1 => y_px e m1)) (fun e m1 => y_px e m1)) (fun e m1 => y_px e m1)) (fun e m1 => y_px e m1)) (fun e m1 => y_px e m1)) (fun e m1 => y_px e m1)) (fun e m1 => y_px e m1)) (fun e m1 => y_px e m1) := by
  rw [y_R_eq (md := z_md_97) rfl rfl]
  exact (y_bIc fun v1 m1 => (y_sh (L' := [some (y_bo 1 0 a0), some (y_bo 0 0 a1), some (y_bi x2), some (y_bi x3), some (y_bi x4), some (y_bi ((z_ishl 1 (y_mI m a1 0)) - 1)), none, none, none, none, none, none, none]) (S' := [y_bi v1]) rfl rfl (y_bIc fun v2 m2 => (y_sh (L' := [some (y_bo 1 0 a0), some (y_bo 0 0 a1), some (y_bi x2), some (y_bi x3), some (y_bi x4), some (y_bi ((z_ishl 1 (y_mI m a1 0)) - 1)), some (y_bi v1), none, none, none, none, none, none]) (S' := [y_bi v2]) rfl rfl (y_bLc fun v3 m3 => (y_sh (L' := [some (y_bo 1 0 a0), some (y_bo 0 0 a1), some (y_bi x2), some (y_bi x3), some (y_bi x4), some (y_bi ((z_ishl 1 (y_mI m a1 0)) - 1)), some (y_bi v1), some (y_bi v2), some (y_bi (z_ishl (z_ishr x4 ((y_mI m2 a0 3) + 1)) ((y_mI m2 a0 3) + 1))), none, none, none, none]) (S' := [y_bl v3]) rfl rfl (y_bLc fun v4 m4 => (y_sh (L' := [some (y_bo 1 0 a0), some (y_bo 0 0 a1), some (y_bi x2), some (y_bi x3), some (y_bi x4), some (y_bi ((z_ishl 1 (y_mI m a1 0)) - 1)), some (y_bi v1), some (y_bi v2), some (y_bi (z_ishl (z_ishr x4 ((y_mI m2 a0 3) + 1)) ((y_mI m2 a0 3) + 1))), none, none, none, none]) (S' := [y_bl v4, y_bl v3]) rfl rfl (y_bIc fun v5 m5 => (y_sh (L' := [some (y_bo 1 0 a0), some (y_bo 0 0 a1), some (y_bi x2), some (y_bi x3), some (y_bi x4), some (y_bi ((z_ishl 1 (y_mI m a1 0)) - 1)), some (y_bi v1), some (y_bi v2), some (y_bi (z_ishl (z_ishr x4 ((y_mI m2 a0 3) + 1)) ((y_mI m2 a0 3) + 1))), none, none, none, none]) (S' := [y_bi v5, y_bl (v3 * v4)]) rfl rfl (y_bLc fun v6 m6 => (y_sh (L' := [some (y_bo 1 0 a0), some (y_bo 0 0 a1), some (y_bi x2), some (y_bi x3), some (y_bi x4), some (y_bi ((z_ishl 1 (y_mI m a1 0)) - 1)), some (y_bi v1), some (y_bi v2), some (y_bi (z_ishl (z_ishr x4 ((y_mI m2 a0 3) + 1)) ((y_mI m2 a0 3) + 1))), some (y_bl ((v3 * v4) * (z_w v5))), none, none, none]) (S' := [y_bl v6, y_bl ((v3 * v4) * (z_w v5))]) rfl rfl (y_bLc fun v7 m7 => (y_sh (L' := [some (y_bo 1 0 a0), some (y_bo 0 0 a1), some (y_bi x2), some (y_bi x3), some (y_bi x4), some (y_bi ((z_ishl 1 (y_mI m a1 0)) - 1)), some (y_bi v1), some (y_bi v2), some (y_bi (z_ishl (z_ishr x4 ((y_mI m2 a0 3) + 1)) ((y_mI m2 a0 3) + 1))), some (y_bl ((v3 * v4) * (z_w v5))), none, some (y_bl (((v3 * v4) * (z_w v5)) * v6)), none]) (S' := [y_bl v7]) rfl rfl (y_bLc fun v8 m8 => (y_sh (L' := [some (y_bo 1 0 a0), some (y_bo 0 0 a1), some (y_bi x2), some (y_bi x3), some (y_bi x4), some (y_bi ((z_ishl 1 (y_mI m a1 0)) - 1)), some (y_bi v1), some (y_bi v2), some (y_bi (z_ishl (z_ishr x4 ((y_mI m2 a0 3) + 1)) ((y_mI m2 a0 3) + 1))), some (y_bl ((v3 * v4) * (z_w v5))), none, some (y_bl (((v3 * v4) * (z_w v5)) * v6)), none]) (S' := [y_bl v8, y_bl v7]) rfl rfl (y_bIc fun v9 m9 => (y_sh (L' := [some (y_bo 1 0 a0), some (y_bo 0 0 a1), some (y_bi x2), some (y_bi x3), some (y_bi x4), some (y_bi ((z_ishl 1 (y_mI m a1 0)) - 1)), some (y_bi v1), some (y_bi v2), some (y_bi (z_ishl (z_ishr x4 ((y_mI m2 a0 3) + 1)) ((y_mI m2 a0 3) + 1))), some (y_bl ((v3 * v4) * (z_w v5))), none, some (y_bl (((v3 * v4) * (z_w v5)) * v6)), none]) (S' := [y_bi v9, y_bl (v7 * v8)]) rfl rfl (y_bLc fun v10 m10 => (y_sh (L' := [some (y_bo 1 0 a0), some (y_bo 0 0 a1), some (y_bi x2), some (y_bi x3), some (y_bi x4), some (y_bi ((z_ishl 1 (y_mI m a1 0)) - 1)), some (y_bi v1), some (y_bi v2), some (y_bi (z_ishl (z_ishr x4 ((y_mI m2 a0 3) + 1)) ((y_mI m2 a0 3) + 1))), some (y_bl ((v7 * v8) * (z_w v9))), none, some (y_bl (((v3 * v4) * (z_w v5)) * v6)), none]) (S' := [y_bl v10, y_bl ((v7 * v8) * (z_w v9)), y_bl (((v3 * v4) * (z_w v5)) * v6)]) rfl rfl rfl))))))))))))))))))))
set_option maxRecDepth 4000 in
theorem y_C_97 (d : Nat) (a0 : Nat) (a1 : Nat) (x2 : Int) (x3 : Int) (x4 : Int) (m : y_m) : y_V sp ph (d + 1) 97 [y_bo 1 0 a0, y_bo 0 0 a1, y_bi x2, y_bi x3, y_bi x4] m = y_R sp ph d 97 0 [some (y_bo 1 0 a0), some (y_bo 0 0 a1), some (y_bi x2), some (y_bi x3), some (y_bi x4), none, none, none, none, none, none, none, none] [] m := (y_V_eq (md := z_md_97) rfl rfl rfl).trans rfl
/-! LacedHoles$Counter.wordsFrom (LLacedHoles$Boot;IIIII)J -/
set_option maxRecDepth 4000 in
theorem y_E_98_0 (d : Nat) (a0 : Nat) (a1 : Nat) (x2 : Int) (x3 : Int) (x4 : Int) (x5 : Int) (x6 : Int) (m : y_m) : y_R sp ph d 98 0 [some (y_bo 1 0 a0), some (y_bo 0 0 a1), some (y_bi x2), some (y_bi x3), some (y_bi x4), some (y_bi x5), some (y_bi x6), none] [] m = y_bI (y_V sp ph d 43 [y_bo 0 0 a1, y_bi (y_mI m a0 2)] m) (fun v1 m1 => y_bI (y_V sp ph d 100 [y_bi v1, y_bi (y_mI m1 a0 4), y_bi x6] m1) (fun v2 m2 => y_bI (y_V sp ph d 43 [y_bo 0 0 a1, y_bi x2] m2) (fun v3 m3 => y_bI (y_V sp ph d 101 [y_bi v2, y_bi x4, y_bi x5, y_bi v3, y_bi x3] m3) (fun v4 m4 => y_bL (y_V sp ph d 9 [y_bo 101 1568 7, y_bi v4] m4) (fun v5 m5 => y_rL v5 m5) (fun e m1 => y_px e m1)) (fun e m1 => y_px e m1)) (fun e m1 => y_px e m1)) (fun e m1 => y_px e m1)) (fun e m1 => y_px e m1) := by
  rw [y_R_eq (md := z_md_98) rfl rfl]
  exact (y_bIc fun v1 m1 => (y_sh (L' := [some (y_bo 1 0 a0), some (y_bo 0 0 a1), some (y_bi x2), some (y_bi x3), some (y_bi x4), some (y_bi x5), some (y_bi x6), none]) (S' := [y_bi v1]) rfl rfl (y_bIc fun v2 m2 => (y_sh (L' := [some (y_bo 1 0 a0), some (y_bo 0 0 a1), some (y_bi x2), some (y_bi x3), some (y_bi x4), some (y_bi x5), some (y_bi x6), none]) (S' := [y_bi v2]) rfl rfl (y_bIc fun v3 m3 => (y_sh (L' := [some (y_bo 1 0 a0), some (y_bo 0 0 a1), some (y_bi x2), some (y_bi x3), some (y_bi x4), some (y_bi x5), some (y_bi x6), some (y_bi v2)]) (S' := [y_bi v3, y_bi x5, y_bi x4, y_bi v2, y_bo 101 1568 7]) rfl rfl (y_bIc fun v4 m4 => (y_sh (L' := [some (y_bo 1 0 a0), some (y_bo 0 0 a1), some (y_bi x2), some (y_bi x3), some (y_bi x4), some (y_bi x5), some (y_bi x6), some (y_bi v2)]) (S' := [y_bi v4, y_bo 101 1568 7]) rfl rfl (y_bLc fun v5 m5 => (y_sh (L' := [some (y_bo 1 0 a0), some (y_bo 0 0 a1), some (y_bi x2), some (y_bi x3), some (y_bi x4), some (y_bi x5), some (y_bi x6), some (y_bi v2)]) (S' := [y_bl v5]) rfl rfl rfl))))))))))
set_option maxRecDepth 4000 in
theorem y_C_98 (d : Nat) (a0 : Nat) (a1 : Nat) (x2 : Int) (x3 : Int) (x4 : Int) (x5 : Int) (x6 : Int) (m : y_m) : y_V sp ph (d + 1) 98 [y_bo 1 0 a0, y_bo 0 0 a1, y_bi x2, y_bi x3, y_bi x4, y_bi x5, y_bi x6] m = y_R sp ph d 98 0 [some (y_bo 1 0 a0), some (y_bo 0 0 a1), some (y_bi x2), some (y_bi x3), some (y_bi x4), some (y_bi x5), some (y_bi x6), none] [] m := (y_V_eq (md := z_md_98) rfl rfl rfl).trans rfl
/-! LacedHoles$Counter.factorial (I)J -/
set_option maxRecDepth 4000 in
theorem y_E_99_0 (d : Nat) (x0 : Int) (m : y_m) : y_R sp ph d 99 0 [some (y_bi x0), none, none, none] [] m = y_R sp ph d 99 4 [some (y_bi x0), some (y_bl 1), none, some (y_bi 2)] [] m := (y_R_eq (md := z_md_99) rfl rfl).trans rfl
set_option maxRecDepth 4000 in
theorem y_E_99_4 (d : Nat) (x0 : Int) (x1 : Int) (x3 : Int) (m : y_m) : y_R sp ph d 99 4 [some (y_bi x0), some (y_bl x1), none, some (y_bi x3)] [] m = if z_w x0 < z_w x3 then y_R sp ph d 99 20 [none, some (y_bl x1), none, none] [] m else y_R sp ph d 99 4 [some (y_bi x0), some (y_bl (x1 * (z_w x3))), none, some (y_bi (x3 + 1))] [] m := (y_R_eq (md := z_md_99) rfl rfl).trans rfl
set_option maxRecDepth 4000 in
theorem y_E_99_20 (d : Nat) (x1 : Int) (m : y_m) : y_R sp ph d 99 20 [none, some (y_bl x1), none, none] [] m = y_rL x1 m := (y_R_eq (md := z_md_99) rfl rfl).trans rfl
set_option maxRecDepth 4000 in
theorem y_C_99 (d : Nat) (x0 : Int) (m : y_m) : y_V sp ph (d + 1) 99 [y_bi x0] m = y_R sp ph d 99 0 [some (y_bi x0), none, none, none] [] m := (y_V_eq (md := z_md_99) rfl rfl rfl).trans rfl
/-! LacedHoles$Counter.sortOf (III)I -/
set_option maxRecDepth 4000 in
theorem y_E_100_0 (d : Nat) (x0 : Int) (x1 : Int) (x2 : Int) (m : y_m) : y_R sp ph d 100 0 [some (y_bi x0), some (y_bi x1), some (y_bi x2)] [] m = y_rI (((x0 * 4) + (x1 * 2)) + x2) m := (y_R_eq (md := z_md_100) rfl rfl).trans rfl
set_option maxRecDepth 4000 in
theorem y_C_100 (d : Nat) (x0 : Int) (x1 : Int) (x2 : Int) (m : y_m) : y_V sp ph (d + 1) 100 [y_bi x0, y_bi x1, y_bi x2] m = y_R sp ph d 100 0 [some (y_bi x0), some (y_bi x1), some (y_bi x2)] [] m := (y_V_eq (md := z_md_100) rfl rfl rfl).trans rfl
/-! LacedHoles$Counter.wordCell (IIIII)I -/
set_option maxRecDepth 4000 in
theorem y_E_101_0 (d : Nat) (x0 : Int) (x1 : Int) (x2 : Int) (x3 : Int) (x4 : Int) (m : y_m) : y_R sp ph d 101 0 [some (y_bi x0), some (y_bi x1), some (y_bi x2), some (y_bi x3), some (y_bi x4)] [] m = if z_w x1 < 0 then y_R sp ph d 101 8 [none, none, none, none, none] [] m else if 0 ≤ z_w x2 then y_R sp ph d 101 10 [some (y_bi x0), some (y_bi x1), some (y_bi x2), some (y_bi x3), some (y_bi x4)] [] m else y_R sp ph d 101 8 [none, none, none, none, none] [] m := (y_R_eq (md := z_md_101) rfl rfl).trans rfl
set_option maxRecDepth 4000 in
theorem y_E_101_8 (d : Nat) (m : y_m) : y_R sp ph d 101 8 [none, none, none, none, none] [] m = y_rI (-1) m := (y_R_eq (md := z_md_101) rfl rfl).trans rfl
set_option maxRecDepth 4000 in
theorem y_E_101_10 (d : Nat) (x0 : Int) (x1 : Int) (x2 : Int) (x3 : Int) (x4 : Int) (m : y_m) : y_R sp ph d 101 10 [some (y_bi x0), some (y_bi x1), some (y_bi x2), some (y_bi x3), some (y_bi x4)] [] m = y_rI ((((x0 * 196) + (((x1 * 7) + x2) * 4)) + (x3 * 2)) + x4) m := (y_R_eq (md := z_md_101) rfl rfl).trans rfl
set_option maxRecDepth 4000 in
theorem y_C_101 (d : Nat) (x0 : Int) (x1 : Int) (x2 : Int) (x3 : Int) (x4 : Int) (m : y_m) : y_V sp ph (d + 1) 101 [y_bi x0, y_bi x1, y_bi x2, y_bi x3, y_bi x4] m = y_R sp ph d 101 0 [some (y_bi x0), some (y_bi x1), some (y_bi x2), some (y_bi x3), some (y_bi x4)] [] m := (y_V_eq (md := z_md_101) rfl rfl rfl).trans rfl
/-! LacedHoles$Counter.countWords (LLacedHoles$Boot;)V -/
set_option maxRecDepth 4000 in
theorem y_E_102_0 (d : Nat) (a0 : Nat) (a1 : Nat) (m : y_m) : y_R sp ph d 102 0 [some (y_bo 1 0 a0), some (y_bo 0 0 a1), none, none, none] [] m = y_R sp ph d 102 10 [some (y_bo 1 0 a0), some (y_bo 0 0 a1), some (y_bi 0), none, none] [] (y_sI m a0 1 (y_mI m a1 5)) := (y_R_eq (md := z_md_102) rfl rfl).trans rfl
set_option maxRecDepth 4000 in
theorem y_E_102_10 (d : Nat) (a0 : Nat) (a1 : Nat) (x2 : Int) (m : y_m) : y_R sp ph d 102 10 [some (y_bo 1 0 a0), some (y_bo 0 0 a1), some (y_bi x2), none, none] [] m = if 8 ≤ z_w x2 then y_R sp ph d 102 61 [none, none, none, none, none] [] m else y_R sp ph d 102 18 [some (y_bo 1 0 a0), some (y_bo 0 0 a1), some (y_bi x2), some (y_bi 0), none] [] m := (y_R_eq (md := z_md_102) rfl rfl).trans rfl
set_option maxRecDepth 4000 in
theorem y_E_102_18 (d : Nat) (a0 : Nat) (a1 : Nat) (x2 : Int) (x3 : Int) (m : y_m) : y_R sp ph d 102 18 [some (y_bo 1 0 a0), some (y_bo 0 0 a1), some (y_bi x2), some (y_bi x3), none] [] m = if 7 ≤ z_w x3 then y_R sp ph d 102 55 [some (y_bo 1 0 a0), some (y_bo 0 0 a1), some (y_bi x2), none, none] [] m else y_R sp ph d 102 27 [some (y_bo 1 0 a0), some (y_bo 0 0 a1), some (y_bi x2), some (y_bi x3), some (y_bi 0)] [] m := (y_R_eq (md := z_md_102) rfl rfl).trans rfl
set_option maxRecDepth 4000 in
theorem y_E_102_27 (d : Nat) (a0 : Nat) (a1 : Nat) (x2 : Int) (x3 : Int) (x4 : Int) (m : y_m) : y_R sp ph d 102 27 [some (y_bo 1 0 a0), some (y_bo 0 0 a1), some (y_bi x2), some (y_bi x3), some (y_bi x4)] [] m = if 7 ≤ z_w x4 then y_R sp ph d 102 49 [some (y_bo 1 0 a0), some (y_bo 0 0 a1), some (y_bi x2), some (y_bi x3), none] [] m else y_bV (y_V sp ph d 103 [y_bo 1 0 a0, y_bo 0 0 a1, y_bi x2, y_bi x3, y_bi x4] m) (fun m1 => y_R sp ph d 102 27 [some (y_bo 1 0 a0), some (y_bo 0 0 a1), some (y_bi x2), some (y_bi x3), some (y_bi (x4 + 1))] [] m1) (fun e m1 => y_px e m1) := by
  rw [y_R_eq (md := z_md_102) rfl rfl]
  exact (y_ic rfl (y_bVc fun m1 => (y_sh (L' := [some (y_bo 1 0 a0), some (y_bo 0 0 a1), some (y_bi x2), some (y_bi x3), some (y_bi x4)]) (S' := []) rfl rfl rfl)))
set_option maxRecDepth 4000 in
theorem y_E_102_49 (d : Nat) (a0 : Nat) (a1 : Nat) (x2 : Int) (x3 : Int) (m : y_m) : y_R sp ph d 102 49 [some (y_bo 1 0 a0), some (y_bo 0 0 a1), some (y_bi x2), some (y_bi x3), none] [] m = y_R sp ph d 102 18 [some (y_bo 1 0 a0), some (y_bo 0 0 a1), some (y_bi x2), some (y_bi (x3 + 1)), none] [] m := (y_R_eq (md := z_md_102) rfl rfl).trans rfl
set_option maxRecDepth 4000 in
theorem y_E_102_55 (d : Nat) (a0 : Nat) (a1 : Nat) (x2 : Int) (m : y_m) : y_R sp ph d 102 55 [some (y_bo 1 0 a0), some (y_bo 0 0 a1), some (y_bi x2), none, none] [] m = y_R sp ph d 102 10 [some (y_bo 1 0 a0), some (y_bo 0 0 a1), some (y_bi (x2 + 1)), none, none] [] m := (y_R_eq (md := z_md_102) rfl rfl).trans rfl
set_option maxRecDepth 4000 in
theorem y_E_102_61 (d : Nat) (m : y_m) : y_R sp ph d 102 61 [none, none, none, none, none] [] m = y_rV m := (y_R_eq (md := z_md_102) rfl rfl).trans rfl
set_option maxRecDepth 4000 in
theorem y_C_102 (d : Nat) (a0 : Nat) (a1 : Nat) (m : y_m) : y_V sp ph (d + 1) 102 [y_bo 1 0 a0, y_bo 0 0 a1] m = y_R sp ph d 102 0 [some (y_bo 1 0 a0), some (y_bo 0 0 a1), none, none, none] [] m := (y_V_eq (md := z_md_102) rfl rfl rfl).trans rfl
/-! LacedHoles$Counter.countWordsOf (LLacedHoles$Boot;III)V -/
set_option maxRecDepth 4000 in
theorem y_E_103_0 (d : Nat) (a0 : Nat) (a1 : Nat) (x2 : Int) (x3 : Int) (x4 : Int) (m : y_m) : y_R sp ph d 103 0 [some (y_bo 1 0 a0), some (y_bo 0 0 a1), some (y_bi x2), some (y_bi x3), some (y_bi x4), none, none, none, none] [] m = y_R sp ph d 103 3 [some (y_bo 1 0 a0), some (y_bo 0 0 a1), some (y_bi x2), some (y_bi x3), some (y_bi x4), some (y_bi 0), none, none, none] [] m := (y_R_eq (md := z_md_103) rfl rfl).trans rfl
set_option maxRecDepth 4000 in
theorem y_E_103_3 (d : Nat) (a0 : Nat) (a1 : Nat) (x2 : Int) (x3 : Int) (x4 : Int) (x5 : Int) (m : y_m) : y_R sp ph d 103 3 [some (y_bo 1 0 a0), some (y_bo 0 0 a1), some (y_bi x2), some (y_bi x3), some (y_bi x4), some (y_bi x5), none, none, none] [] m = if 2 ≤ z_w x5 then y_R sp ph d 103 87 [none, none, none, none, none, none, none, none, none] [] m else y_R sp ph d 103 12 [some (y_bo 1 0 a0), some (y_bo 0 0 a1), some (y_bi x2), some (y_bi x3), some (y_bi x4), some (y_bi x5), some (y_bi 0), none, none] [] m := (y_R_eq (md := z_md_103) rfl rfl).trans rfl
set_option maxRecDepth 4000 in
theorem y_E_103_12 (d : Nat) (a0 : Nat) (a1 : Nat) (x2 : Int) (x3 : Int) (x4 : Int) (x5 : Int) (x6 : Int) (m : y_m) : y_R sp ph d 103 12 [some (y_bo 1 0 a0), some (y_bo 0 0 a1), some (y_bi x2), some (y_bi x3), some (y_bi x4), some (y_bi x5), some (y_bi x6), none, none] [] m = if 2 ≤ z_w x6 then y_R sp ph d 103 81 [some (y_bo 1 0 a0), some (y_bo 0 0 a1), some (y_bi x2), some (y_bi x3), some (y_bi x4), some (y_bi x5), none, none, none] [] m else if ¬ z_w (x3 + x4) = 0 then y_R sp ph d 103 37 [some (y_bo 1 0 a0), some (y_bo 0 0 a1), some (y_bi x2), some (y_bi x3), some (y_bi x4), some (y_bi x5), some (y_bi x6), none, none] [] m else y_bL (y_V sp ph d 104 [y_bo 0 0 a1, y_bi x2, y_bi x5, y_bi x6] m) (fun v1 m1 => y_R sp ph d 103 53 [some (y_bo 1 0 a0), some (y_bo 0 0 a1), some (y_bi x2), some (y_bi x3), some (y_bi x4), some (y_bi x5), some (y_bi x6), none, none] [y_bl v1] m1) (fun e m1 => y_px e m1) := by
  rw [y_R_eq (md := z_md_103) rfl rfl]
  exact (y_ic rfl (y_ic rfl (y_bLc fun v1 m1 => (y_sh (L' := [some (y_bo 1 0 a0), some (y_bo 0 0 a1), some (y_bi x2), some (y_bi x3), some (y_bi x4), some (y_bi x5), some (y_bi x6), none, none]) (S' := [y_bl v1]) rfl rfl rfl))))
set_option maxRecDepth 4000 in
theorem y_E_103_37 (d : Nat) (a0 : Nat) (a1 : Nat) (x2 : Int) (x3 : Int) (x4 : Int) (x5 : Int) (x6 : Int) (m : y_m) : y_R sp ph d 103 37 [some (y_bo 1 0 a0), some (y_bo 0 0 a1), some (y_bi x2), some (y_bi x3), some (y_bi x4), some (y_bi x5), some (y_bi x6), none, none] [] m = y_bL (y_V sp ph d 105 [y_bo 1 0 a0, y_bo 0 0 a1, y_bi x2, y_bi x3, y_bi x4, y_bi ((x5 * 2) + x6)] m) (fun v1 m1 => y_R sp ph d 103 53 [some (y_bo 1 0 a0), some (y_bo 0 0 a1), some (y_bi x2), some (y_bi x3), some (y_bi x4), some (y_bi x5), some (y_bi x6), none, none] [y_bl v1] m1) (fun e m1 => y_px e m1) := by
  rw [y_R_eq (md := z_md_103) rfl rfl]
  exact (y_bLc fun v1 m1 => (y_sh (L' := [some (y_bo 1 0 a0), some (y_bo 0 0 a1), some (y_bi x2), some (y_bi x3), some (y_bi x4), some (y_bi x5), some (y_bi x6), none, none]) (S' := [y_bl v1]) rfl rfl rfl))
set_option maxRecDepth 4000 in
theorem y_E_103_53 (d : Nat) (a0 : Nat) (a1 : Nat) (x2 : Int) (x3 : Int) (x4 : Int) (x5 : Int) (x6 : Int) (xs0 : Int) (m : y_m) : y_R sp ph d 103 53 [some (y_bo 1 0 a0), some (y_bo 0 0 a1), some (y_bi x2), some (y_bi x3), some (y_bi x4), some (y_bi x5), some (y_bi x6), none, none] [y_bl xs0] m = y_bI (y_V sp ph d 101 [y_bi x2, y_bi x3, y_bi x4, y_bi x5, y_bi x6] m) (fun v1 m1 => y_bV (y_V sp ph d 10 [y_bo 101 1568 7, y_bi v1, y_bl xs0] m1) (fun m2 => y_R sp ph d 103 12 [some (y_bo 1 0 a0), some (y_bo 0 0 a1), some (y_bi x2), some (y_bi x3), some (y_bi x4), some (y_bi x5), some (y_bi (x6 + 1)), none, none] [] m2) (fun e m1 => y_px e m1)) (fun e m1 => y_px e m1) := by
  rw [y_R_eq (md := z_md_103) rfl rfl]
  exact (y_bIc fun v1 m1 => (y_sh (L' := [some (y_bo 1 0 a0), some (y_bo 0 0 a1), some (y_bi x2), some (y_bi x3), some (y_bi x4), some (y_bi x5), some (y_bi x6), some (y_bl xs0), none]) (S' := [y_bi v1, y_bo 101 1568 7]) rfl rfl (y_bVc fun m2 => (y_sh (L' := [some (y_bo 1 0 a0), some (y_bo 0 0 a1), some (y_bi x2), some (y_bi x3), some (y_bi x4), some (y_bi x5), some (y_bi x6), some (y_bl xs0), none]) (S' := []) rfl rfl rfl))))
set_option maxRecDepth 4000 in
theorem y_E_103_81 (d : Nat) (a0 : Nat) (a1 : Nat) (x2 : Int) (x3 : Int) (x4 : Int) (x5 : Int) (m : y_m) : y_R sp ph d 103 81 [some (y_bo 1 0 a0), some (y_bo 0 0 a1), some (y_bi x2), some (y_bi x3), some (y_bi x4), some (y_bi x5), none, none, none] [] m = y_R sp ph d 103 3 [some (y_bo 1 0 a0), some (y_bo 0 0 a1), some (y_bi x2), some (y_bi x3), some (y_bi x4), some (y_bi (x5 + 1)), none, none, none] [] m := (y_R_eq (md := z_md_103) rfl rfl).trans rfl
set_option maxRecDepth 4000 in
theorem y_E_103_87 (d : Nat) (m : y_m) : y_R sp ph d 103 87 [none, none, none, none, none, none, none, none, none] [] m = y_rV m := (y_R_eq (md := z_md_103) rfl rfl).trans rfl
set_option maxRecDepth 4000 in
theorem y_C_103 (d : Nat) (a0 : Nat) (a1 : Nat) (x2 : Int) (x3 : Int) (x4 : Int) (m : y_m) : y_V sp ph (d + 1) 103 [y_bo 1 0 a0, y_bo 0 0 a1, y_bi x2, y_bi x3, y_bi x4] m = y_R sp ph d 103 0 [some (y_bo 1 0 a0), some (y_bo 0 0 a1), some (y_bi x2), some (y_bi x3), some (y_bi x4), none, none, none, none] [] m := (y_V_eq (md := z_md_103) rfl rfl rfl).trans rfl
/-! LacedHoles$Counter.homeWord (LLacedHoles$Boot;III)J -/
set_option maxRecDepth 4000 in
theorem y_E_104_0 (d : Nat) (a0 : Nat) (x1 : Int) (x2 : Int) (x3 : Int) (m : y_m) : y_R sp ph d 104 0 [some (y_bo 0 0 a0), some (y_bi x1), some (y_bi x2), some (y_bi x3), none, none] [] m = y_bI (y_V sp ph d 46 [y_bo 0 0 a0, y_bi x3, y_bi (z_ixor x2 (z_ishr x1 2))] m) (fun v1 m1 => if z_w v1 = 0 then y_R sp ph d 104 35 [none, some (y_bi x1), some (y_bi x2), none, none, none] [] m1 else y_bI (y_V sp ph d 46 [y_bo 0 0 a0, y_bi (z_ixor x2 (z_ishr x1 2)), y_bi (z_iand (z_ishr x1 1) 1)] m1) (fun v2 m2 => if z_w v2 = 0 then y_R sp ph d 104 35 [none, some (y_bi x1), some (y_bi x2), none, none, none] [] m2 else y_R sp ph d 104 36 [none, some (y_bi x1), some (y_bi x2), none, none, none] [y_bi 1] m2) (fun e m1 => y_px e m1)) (fun e m1 => y_px e m1) := by
  rw [y_R_eq (md := z_md_104) rfl rfl]
  exact (y_bIc fun v1 m1 => (y_sh (L' := [some (y_bo 0 0 a0), some (y_bi x1), some (y_bi x2), some (y_bi x3), some (y_bi (z_ixor x2 (z_ishr x1 2))), none]) (S' := [y_bi v1]) rfl rfl (y_ic rfl (y_bIc fun v2 m2 => (y_sh (L' := [some (y_bo 0 0 a0), some (y_bi x1), some (y_bi x2), some (y_bi x3), some (y_bi (z_ixor x2 (z_ishr x1 2))), none]) (S' := [y_bi v2]) rfl rfl rfl)))))
set_option maxRecDepth 4000 in
theorem y_E_104_35 (d : Nat) (x1 : Int) (x2 : Int) (m : y_m) : y_R sp ph d 104 35 [none, some (y_bi x1), some (y_bi x2), none, none, none] [] m = y_R sp ph d 104 36 [none, some (y_bi x1), some (y_bi x2), none, none, none] [y_bi 0] m := (y_R_eq (md := z_md_104) rfl rfl).trans rfl
set_option maxRecDepth 4000 in
theorem y_E_104_36 (d : Nat) (x1 : Int) (x2 : Int) (xs0 : Int) (m : y_m) : y_R sp ph d 104 36 [none, some (y_bi x1), some (y_bi x2), none, none, none] [y_bi xs0] m = if ¬ z_w x2 = z_w (z_iand x1 1) then y_R sp ph d 104 54 [none, none, none, none, none, none] [] m else if z_w xs0 = 0 then y_R sp ph d 104 54 [none, none, none, none, none, none] [] m else y_R sp ph d 104 55 [none, none, none, none, none, none] [y_bl 1] m := (y_R_eq (md := z_md_104) rfl rfl).trans rfl
set_option maxRecDepth 4000 in
theorem y_E_104_54 (d : Nat) (m : y_m) : y_R sp ph d 104 54 [none, none, none, none, none, none] [] m = y_R sp ph d 104 55 [none, none, none, none, none, none] [y_bl 0] m := (y_R_eq (md := z_md_104) rfl rfl).trans rfl
set_option maxRecDepth 4000 in
theorem y_E_104_55 (d : Nat) (xs0 : Int) (m : y_m) : y_R sp ph d 104 55 [none, none, none, none, none, none] [y_bl xs0] m = y_rL xs0 m := (y_R_eq (md := z_md_104) rfl rfl).trans rfl
set_option maxRecDepth 4000 in
theorem y_C_104 (d : Nat) (a0 : Nat) (x1 : Int) (x2 : Int) (x3 : Int) (m : y_m) : y_V sp ph (d + 1) 104 [y_bo 0 0 a0, y_bi x1, y_bi x2, y_bi x3] m = y_R sp ph d 104 0 [some (y_bo 0 0 a0), some (y_bi x1), some (y_bi x2), some (y_bi x3), none, none] [] m := (y_V_eq (md := z_md_104) rfl rfl rfl).trans rfl
/-! LacedHoles$Counter.longerWords (LLacedHoles$Boot;IIII)J -/
set_option maxRecDepth 4000 in
theorem y_E_105_0 (d : Nat) (a0 : Nat) (a1 : Nat) (x2 : Int) (x3 : Int) (x4 : Int) (x5 : Int) (m : y_m) : y_R sp ph d 105 0 [some (y_bo 1 0 a0), some (y_bo 0 0 a1), some (y_bi x2), some (y_bi x3), some (y_bi x4), some (y_bi x5), none, none, none, none] [] m = y_bI (y_V sp ph d 46 [y_bo 0 0 a1, y_bi (z_iand x5 1), y_bi (z_ishr x5 1)] m) (fun v1 m1 => if z_w v1 = 0 then y_R sp ph d 105 50 [some (y_bo 1 0 a0), some (y_bo 0 0 a1), some (y_bi x2), some (y_bi x3), some (y_bi x4), none, some (y_bi (z_ishr x5 1)), some (y_bi (z_iand x5 1)), some (y_bl 0), none] [] m1 else y_bI (y_V sp ph d 101 [y_bi x2, y_bi (x3 - 1), y_bi x4, y_bi 0, y_bi (z_ishr x5 1)] m1) (fun v2 m2 => y_bL (y_V sp ph d 9 [y_bo 101 1568 7, y_bi v2] m2) (fun v3 m3 => y_R sp ph d 105 50 [some (y_bo 1 0 a0), some (y_bo 0 0 a1), some (y_bi x2), some (y_bi x3), some (y_bi x4), none, some (y_bi (z_ishr x5 1)), some (y_bi (z_iand x5 1)), some (y_bl (0 + v3)), none] [] m3) (fun e m1 => y_px e m1)) (fun e m1 => y_px e m1)) (fun e m1 => y_px e m1) := by
  rw [y_R_eq (md := z_md_105) rfl rfl]
  exact (y_bIc fun v1 m1 => (y_sh (L' := [some (y_bo 1 0 a0), some (y_bo 0 0 a1), some (y_bi x2), some (y_bi x3), some (y_bi x4), some (y_bi x5), some (y_bi (z_ishr x5 1)), some (y_bi (z_iand x5 1)), some (y_bl 0), none]) (S' := [y_bi v1]) rfl rfl (y_ic rfl (y_bIc fun v2 m2 => (y_sh (L' := [some (y_bo 1 0 a0), some (y_bo 0 0 a1), some (y_bi x2), some (y_bi x3), some (y_bi x4), some (y_bi x5), some (y_bi (z_ishr x5 1)), some (y_bi (z_iand x5 1)), some (y_bl 0), none]) (S' := [y_bi v2, y_bo 101 1568 7, y_bl 0]) rfl rfl (y_bLc fun v3 m3 => (y_sh (L' := [some (y_bo 1 0 a0), some (y_bo 0 0 a1), some (y_bi x2), some (y_bi x3), some (y_bi x4), some (y_bi x5), some (y_bi (z_ishr x5 1)), some (y_bi (z_iand x5 1)), some (y_bl 0), none]) (S' := [y_bl v3, y_bl 0]) rfl rfl rfl)))))))
set_option maxRecDepth 4000 in
theorem y_E_105_50 (d : Nat) (a0 : Nat) (a1 : Nat) (x2 : Int) (x3 : Int) (x4 : Int) (x6 : Int) (x7 : Int) (x8 : Int) (m : y_m) : y_R sp ph d 105 50 [some (y_bo 1 0 a0), some (y_bo 0 0 a1), some (y_bi x2), some (y_bi x3), some (y_bi x4), none, some (y_bi x6), some (y_bi x7), some (y_bl x8), none] [] m = y_bI (y_V sp ph d 46 [y_bo 0 0 a1, y_bi x7, y_bi (1 - x6)] m) (fun v1 m1 => if z_w v1 = 0 then y_R sp ph d 105 89 [none, none, none, none, none, none, none, none, some (y_bl x8), none] [] m1 else y_bI (y_V sp ph d 101 [y_bi x2, y_bi x3, y_bi (x4 - 1), y_bi 1, y_bi (1 - x6)] m1) (fun v2 m2 => y_bL (y_V sp ph d 9 [y_bo 101 1568 7, y_bi v2] m2) (fun v3 m3 => y_R sp ph d 105 89 [none, none, none, none, none, none, none, none, some (y_bl (x8 + v3)), none] [] m3) (fun e m1 => y_px e m1)) (fun e m1 => y_px e m1)) (fun e m1 => y_px e m1) := by
  rw [y_R_eq (md := z_md_105) rfl rfl]
  exact (y_bIc fun v1 m1 => (y_sh (L' := [some (y_bo 1 0 a0), some (y_bo 0 0 a1), some (y_bi x2), some (y_bi x3), some (y_bi x4), none, some (y_bi x6), some (y_bi x7), some (y_bl x8), none]) (S' := [y_bi v1]) rfl rfl (y_ic rfl (y_bIc fun v2 m2 => (y_sh (L' := [some (y_bo 1 0 a0), some (y_bo 0 0 a1), some (y_bi x2), some (y_bi x3), some (y_bi x4), none, some (y_bi x6), some (y_bi x7), some (y_bl x8), none]) (S' := [y_bi v2, y_bo 101 1568 7, y_bl x8]) rfl rfl (y_bLc fun v3 m3 => (y_sh (L' := [some (y_bo 1 0 a0), some (y_bo 0 0 a1), some (y_bi x2), some (y_bi x3), some (y_bi x4), none, some (y_bi x6), some (y_bi x7), some (y_bl x8), none]) (S' := [y_bl v3, y_bl x8]) rfl rfl rfl)))))))
set_option maxRecDepth 4000 in
theorem y_E_105_89 (d : Nat) (x8 : Int) (m : y_m) : y_R sp ph d 105 89 [none, none, none, none, none, none, none, none, some (y_bl x8), none] [] m = y_rL x8 m := (y_R_eq (md := z_md_105) rfl rfl).trans rfl
set_option maxRecDepth 4000 in
theorem y_C_105 (d : Nat) (a0 : Nat) (a1 : Nat) (x2 : Int) (x3 : Int) (x4 : Int) (x5 : Int) (m : y_m) : y_V sp ph (d + 1) 105 [y_bo 1 0 a0, y_bo 0 0 a1, y_bi x2, y_bi x3, y_bi x4, y_bi x5] m = y_R sp ph d 105 0 [some (y_bo 1 0 a0), some (y_bo 0 0 a1), some (y_bi x2), some (y_bi x3), some (y_bi x4), some (y_bi x5), none, none, none, none] [] m := (y_V_eq (md := z_md_105) rfl rfl rfl).trans rfl
/-! LacedHoles$Finder.forget ()V -/
set_option maxRecDepth 4000 in
theorem y_E_107_0 (d : Nat) (a0 : Nat) (m : y_m) : y_R sp ph d 107 0 [some (y_bo 2 0 a0)] [] m = y_rV (y_sI (y_sI (y_sI m a0 4 0) a0 5 0) a0 6 (-1)) := (y_R_eq (md := z_md_107) rfl rfl).trans rfl
set_option maxRecDepth 4000 in
theorem y_C_107 (d : Nat) (a0 : Nat) (m : y_m) : y_V sp ph (d + 1) 107 [y_bo 2 0 a0] m = y_R sp ph d 107 0 [some (y_bo 2 0 a0)] [] m := (y_V_eq (md := z_md_107) rfl rfl rfl).trans rfl
/-! LacedHoles$Finder.solve (LLacedHoles$Boot;LLacedHoles$Roots;II)V -/
set_option maxRecDepth 4000 in
theorem y_E_108_0 (d : Nat) (a0 : Nat) (a1 : Nat) (a2 : Nat) (x3 : Int) (x4 : Int) (m : y_m) : y_R sp ph d 108 0 [some (y_bo 2 0 a0), some (y_bo 0 0 a1), some (y_bo 4 0 a2), some (y_bi x3), some (y_bi x4), none] [] m = if ¬ z_w (y_mI m a0 6) = z_w x4 then y_R sp ph d 108 21 [some (y_bo 2 0 a0), some (y_bo 0 0 a1), some (y_bo 4 0 a2), some (y_bi x3), some (y_bi x4), none] [] m else if ¬ z_w (z_iand x3 (z_ixor (y_mI m a0 5) (-1))) = 0 then y_R sp ph d 108 21 [some (y_bo 2 0 a0), some (y_bo 0 0 a1), some (y_bo 4 0 a2), some (y_bi x3), some (y_bi x4), none] [] m else y_rV m := (y_R_eq (md := z_md_108) rfl rfl).trans rfl
set_option maxRecDepth 4000 in
theorem y_E_108_21 (d : Nat) (a0 : Nat) (a1 : Nat) (a2 : Nat) (x3 : Int) (x4 : Int) (m : y_m) : y_R sp ph d 108 21 [some (y_bo 2 0 a0), some (y_bo 0 0 a1), some (y_bo 4 0 a2), some (y_bi x3), some (y_bi x4), none] [] m = y_bV (y_V sp ph d 111 [y_bo 2 0 a0, y_bo 0 0 a1, y_bo 4 0 a2, y_bi x4] m) (fun m1 => y_R sp ph d 108 32 [some (y_bo 2 0 a0), some (y_bo 0 0 a1), none, some (y_bi x3), some (y_bi x4), some (y_bi 0)] [] m1) (fun e m1 => y_px e m1) := by
  rw [y_R_eq (md := z_md_108) rfl rfl]
  exact (y_bVc fun m1 => (y_sh (L' := [some (y_bo 2 0 a0), some (y_bo 0 0 a1), some (y_bo 4 0 a2), some (y_bi x3), some (y_bi x4), none]) (S' := []) rfl rfl rfl))
set_option maxRecDepth 4000 in
theorem y_E_108_32 (d : Nat) (a0 : Nat) (a1 : Nat) (x3 : Int) (x4 : Int) (x5 : Int) (m : y_m) : y_R sp ph d 108 32 [some (y_bo 2 0 a0), some (y_bo 0 0 a1), none, some (y_bi x3), some (y_bi x4), some (y_bi x5)] [] m = if z_w x3 < z_w x5 then y_R sp ph d 108 60 [some (y_bo 2 0 a0), none, none, some (y_bi x3), some (y_bi x4), none] [] m else if ¬ z_w (z_iand x5 (z_ixor x3 (-1))) = 0 then y_R sp ph d 108 54 [some (y_bo 2 0 a0), some (y_bo 0 0 a1), none, some (y_bi x3), some (y_bi x4), some (y_bi x5)] [] m else y_bV (y_V sp ph d 115 [y_bo 2 0 a0, y_bo 0 0 a1, y_bi x5] m) (fun m1 => y_R sp ph d 108 54 [some (y_bo 2 0 a0), some (y_bo 0 0 a1), none, some (y_bi x3), some (y_bi x4), some (y_bi x5)] [] m1) (fun e m1 => y_px e m1) := by
  rw [y_R_eq (md := z_md_108) rfl rfl]
  exact (y_ic rfl (y_ic rfl (y_bVc fun m1 => (y_sh (L' := [some (y_bo 2 0 a0), some (y_bo 0 0 a1), none, some (y_bi x3), some (y_bi x4), some (y_bi x5)]) (S' := []) rfl rfl rfl))))
set_option maxRecDepth 4000 in
theorem y_E_108_54 (d : Nat) (a0 : Nat) (a1 : Nat) (x3 : Int) (x4 : Int) (x5 : Int) (m : y_m) : y_R sp ph d 108 54 [some (y_bo 2 0 a0), some (y_bo 0 0 a1), none, some (y_bi x3), some (y_bi x4), some (y_bi x5)] [] m = y_R sp ph d 108 32 [some (y_bo 2 0 a0), some (y_bo 0 0 a1), none, some (y_bi x3), some (y_bi x4), some (y_bi (x5 + 1))] [] m := (y_R_eq (md := z_md_108) rfl rfl).trans rfl
set_option maxRecDepth 4000 in
theorem y_E_108_60 (d : Nat) (a0 : Nat) (x3 : Int) (x4 : Int) (m : y_m) : y_R sp ph d 108 60 [some (y_bo 2 0 a0), none, none, some (y_bi x3), some (y_bi x4), none] [] m = y_rV (y_sI (y_sI m a0 6 x4) a0 5 x3) := (y_R_eq (md := z_md_108) rfl rfl).trans rfl
set_option maxRecDepth 4000 in
theorem y_C_108 (d : Nat) (a0 : Nat) (a1 : Nat) (a2 : Nat) (x3 : Int) (x4 : Int) (m : y_m) : y_V sp ph (d + 1) 108 [y_bo 2 0 a0, y_bo 0 0 a1, y_bo 4 0 a2, y_bi x3, y_bi x4] m = y_R sp ph d 108 0 [some (y_bo 2 0 a0), some (y_bo 0 0 a1), some (y_bo 4 0 a2), some (y_bi x3), some (y_bi x4), none] [] m := (y_V_eq (md := z_md_108) rfl rfl rfl).trans rfl
/-! LacedHoles$Finder.knowTours (LLacedHoles$Boot;LLacedHoles$Roots;)V -/
set_option maxRecDepth 4000 in
theorem y_E_109_0 (d : Nat) (a0 : Nat) (a1 : Nat) (a2 : Nat) (m : y_m) : y_R sp ph d 109 0 [some (y_bo 2 0 a0), some (y_bo 0 0 a1), some (y_bo 4 0 a2), none, none] [] m = if z_w (y_mI m a0 4) = 0 then y_R sp ph d 109 8 [some (y_bo 2 0 a0), some (y_bo 0 0 a1), some (y_bo 4 0 a2), none, none] [] m else y_rV m := (y_R_eq (md := z_md_109) rfl rfl).trans rfl
set_option maxRecDepth 4000 in
theorem y_E_109_8 (d : Nat) (a0 : Nat) (a1 : Nat) (a2 : Nat) (m : y_m) : y_R sp ph d 109 8 [some (y_bo 2 0 a0), some (y_bo 0 0 a1), some (y_bo 4 0 a2), none, none] [] m = y_bI (y_V sp ph d 41 [y_bo 0 0 a1] m) (fun v1 m1 => y_bV (y_V sp ph d 108 [y_bo 2 0 a0, y_bo 0 0 a1, y_bo 4 0 a2, y_bi v1, y_bi 0] m1) (fun m2 => y_R sp ph d 109 24 [some (y_bo 2 0 a0), some (y_bo 0 0 a1), none, some (y_bi v1), some (y_bi 0)] [] m2) (fun e m1 => y_px e m1)) (fun e m1 => y_px e m1) := by
  rw [y_R_eq (md := z_md_109) rfl rfl]
  exact (y_bIc fun v1 m1 => (y_sh (L' := [some (y_bo 2 0 a0), some (y_bo 0 0 a1), some (y_bo 4 0 a2), none, none]) (S' := [y_bi v1]) rfl rfl (y_bVc fun m2 => (y_sh (L' := [some (y_bo 2 0 a0), some (y_bo 0 0 a1), some (y_bo 4 0 a2), some (y_bi v1), none]) (S' := []) rfl rfl rfl))))
set_option maxRecDepth 4000 in
theorem y_E_109_24 (d : Nat) (a0 : Nat) (a1 : Nat) (x3 : Int) (x4 : Int) (m : y_m) : y_R sp ph d 109 24 [some (y_bo 2 0 a0), some (y_bo 0 0 a1), none, some (y_bi x3), some (y_bi x4)] [] m = if 4096 ≤ z_w x4 then y_R sp ph d 109 69 [some (y_bo 2 0 a0), none, none, none, none] [] m else if ¬ z_w (z_iand x4 (z_ixor x3 (-1))) = 0 then y_R sp ph d 109 57 [some (y_bo 2 0 a0), some (y_bo 0 0 a1), none, some (y_bi x3), some (y_bi x4)] [y_bi x4, y_bo 101 4096 10] m else y_bL (y_V sp ph d 119 [y_bo 2 0 a0, y_bo 0 0 a1, y_bi x4] m) (fun v1 m1 => y_R sp ph d 109 60 [some (y_bo 2 0 a0), some (y_bo 0 0 a1), none, some (y_bi x3), some (y_bi x4)] [y_bl v1, y_bi x4, y_bo 101 4096 10] m1) (fun e m1 => y_px e m1) := by
  rw [y_R_eq (md := z_md_109) rfl rfl]
  exact (y_ic rfl (y_ic rfl (y_bLc fun v1 m1 => (y_sh (L' := [some (y_bo 2 0 a0), some (y_bo 0 0 a1), none, some (y_bi x3), some (y_bi x4)]) (S' := [y_bl v1, y_bi x4, y_bo 101 4096 10]) rfl rfl rfl))))
set_option maxRecDepth 4000 in
theorem y_E_109_57 (d : Nat) (a0 : Nat) (a1 : Nat) (x3 : Int) (x4 : Int) (xs0 : Int) (as1 : Nat) (m : y_m) : y_R sp ph d 109 57 [some (y_bo 2 0 a0), some (y_bo 0 0 a1), none, some (y_bi x3), some (y_bi x4)] [y_bi xs0, y_bo 101 4096 as1] m = y_R sp ph d 109 60 [some (y_bo 2 0 a0), some (y_bo 0 0 a1), none, some (y_bi x3), some (y_bi x4)] [y_bl 9223372036854775807, y_bi xs0, y_bo 101 4096 as1] m := (y_R_eq (md := z_md_109) rfl rfl).trans rfl
set_option maxRecDepth 4000 in
theorem y_E_109_60 (d : Nat) (a0 : Nat) (a1 : Nat) (x3 : Int) (x4 : Int) (xs0 : Int) (xs1 : Int) (as2 : Nat) (m : y_m) : y_R sp ph d 109 60 [some (y_bo 2 0 a0), some (y_bo 0 0 a1), none, some (y_bi x3), some (y_bi x4)] [y_bl xs0, y_bi xs1, y_bo 101 4096 as2] m = y_bV (y_V sp ph d 10 [y_bo 101 4096 as2, y_bi xs1, y_bl xs0] m) (fun m1 => y_R sp ph d 109 24 [some (y_bo 2 0 a0), some (y_bo 0 0 a1), none, some (y_bi x3), some (y_bi (x4 + 1))] [] m1) (fun e m1 => y_px e m1) := by
  rw [y_R_eq (md := z_md_109) rfl rfl]
  exact (y_bVc fun m1 => (y_sh (L' := [some (y_bo 2 0 a0), some (y_bo 0 0 a1), none, some (y_bi x3), some (y_bi x4)]) (S' := []) rfl rfl rfl))
set_option maxRecDepth 4000 in
theorem y_E_109_69 (d : Nat) (a0 : Nat) (m : y_m) : y_R sp ph d 109 69 [some (y_bo 2 0 a0), none, none, none, none] [] m = y_rV (y_sI m a0 4 1) := (y_R_eq (md := z_md_109) rfl rfl).trans rfl
set_option maxRecDepth 4000 in
theorem y_C_109 (d : Nat) (a0 : Nat) (a1 : Nat) (a2 : Nat) (m : y_m) : y_V sp ph (d + 1) 109 [y_bo 2 0 a0, y_bo 0 0 a1, y_bo 4 0 a2] m = y_R sp ph d 109 0 [some (y_bo 2 0 a0), some (y_bo 0 0 a1), some (y_bo 4 0 a2), none, none] [] m := (y_V_eq (md := z_md_109) rfl rfl rfl).trans rfl
/-! LacedHoles$Finder.tour (I)J -/
set_option maxRecDepth 4000 in
theorem y_E_110_0 (d : Nat) (a0 : Nat) (x1 : Int) (m : y_m) : y_R sp ph d 110 0 [some (y_bo 2 0 a0), some (y_bi x1)] [] m = if z_w x1 < 0 then y_R sp ph d 110 22 [none, none] [] m else if 4096 ≤ z_w x1 then y_R sp ph d 110 22 [none, none] [] m else y_bL (y_V sp ph d 9 [y_bo 101 4096 10, y_bi x1] m) (fun v1 m1 => y_R sp ph d 110 25 [none, none] [y_bl v1] m1) (fun e m1 => y_px e m1) := by
  rw [y_R_eq (md := z_md_110) rfl rfl]
  exact (y_ic rfl (y_ic rfl (y_bLc fun v1 m1 => (y_sh (L' := [some (y_bo 2 0 a0), some (y_bi x1)]) (S' := [y_bl v1]) rfl rfl rfl))))
set_option maxRecDepth 4000 in
theorem y_E_110_22 (d : Nat) (m : y_m) : y_R sp ph d 110 22 [none, none] [] m = y_R sp ph d 110 25 [none, none] [y_bl 9223372036854775807] m := (y_R_eq (md := z_md_110) rfl rfl).trans rfl
set_option maxRecDepth 4000 in
theorem y_E_110_25 (d : Nat) (xs0 : Int) (m : y_m) : y_R sp ph d 110 25 [none, none] [y_bl xs0] m = y_rL xs0 m := (y_R_eq (md := z_md_110) rfl rfl).trans rfl
set_option maxRecDepth 4000 in
theorem y_C_110 (d : Nat) (a0 : Nat) (x1 : Int) (m : y_m) : y_V sp ph (d + 1) 110 [y_bo 2 0 a0, y_bi x1] m = y_R sp ph d 110 0 [some (y_bo 2 0 a0), some (y_bi x1)] [] m := (y_V_eq (md := z_md_110) rfl rfl rfl).trans rfl
/-! LacedHoles$Finder.setCosts (LLacedHoles$Boot;LLacedHoles$Roots;I)V -/
set_option maxRecDepth 4000 in
theorem y_E_111_0 (d : Nat) (a0 : Nat) (a1 : Nat) (a2 : Nat) (x3 : Int) (m : y_m) : y_R sp ph d 111 0 [some (y_bo 2 0 a0), some (y_bo 0 0 a1), some (y_bo 4 0 a2), some (y_bi x3), none, none, none, none] [] m = y_R sp ph d 111 3 [some (y_bo 2 0 a0), some (y_bo 0 0 a1), some (y_bo 4 0 a2), some (y_bi x3), some (y_bi 0), none, none, none] [] m := (y_R_eq (md := z_md_111) rfl rfl).trans rfl
set_option maxRecDepth 4000 in
theorem y_E_111_3 (d : Nat) (a0 : Nat) (a1 : Nat) (a2 : Nat) (x3 : Int) (x4 : Int) (m : y_m) : y_R sp ph d 111 3 [some (y_bo 2 0 a0), some (y_bo 0 0 a1), some (y_bo 4 0 a2), some (y_bi x3), some (y_bi x4), none, none, none] [] m = y_bI (y_V sp ph d 38 [y_bo 0 0 a1] m) (fun v1 m1 => if z_w v1 ≤ z_w x4 then y_R sp ph d 111 127 [none, none, none, none, none, none, none, none] [] m1 else y_R sp ph d 111 15 [some (y_bo 2 0 a0), some (y_bo 0 0 a1), some (y_bo 4 0 a2), some (y_bi x3), some (y_bi x4), some (y_bi 0), none, none] [] m1) (fun e m1 => y_px e m1) := by
  rw [y_R_eq (md := z_md_111) rfl rfl]
  exact (y_bIc fun v1 m1 => (y_sh (L' := [some (y_bo 2 0 a0), some (y_bo 0 0 a1), some (y_bo 4 0 a2), some (y_bi x3), some (y_bi x4), none, none, none]) (S' := [y_bi v1, y_bi x4]) rfl rfl rfl))
set_option maxRecDepth 4000 in
theorem y_E_111_15 (d : Nat) (a0 : Nat) (a1 : Nat) (a2 : Nat) (x3 : Int) (x4 : Int) (x5 : Int) (m : y_m) : y_R sp ph d 111 15 [some (y_bo 2 0 a0), some (y_bo 0 0 a1), some (y_bo 4 0 a2), some (y_bi x3), some (y_bi x4), some (y_bi x5), none, none] [] m = y_bI (y_V sp ph d 38 [y_bo 0 0 a1] m) (fun v1 m1 => if z_w v1 ≤ z_w x5 then y_R sp ph d 111 121 [some (y_bo 2 0 a0), some (y_bo 0 0 a1), some (y_bo 4 0 a2), some (y_bi x3), some (y_bi x4), none, none, none] [] m1 else if ¬ z_w x3 = 2 then y_R sp ph d 111 42 [some (y_bo 2 0 a0), some (y_bo 0 0 a1), some (y_bo 4 0 a2), some (y_bi x3), some (y_bi x4), some (y_bi x5), none, none] [] m1 else y_bL (y_V sp ph d 53 [y_bo 4 0 a2, y_bo 0 0 a1, y_bi x4, y_bi x5] m1) (fun v2 m2 => y_R sp ph d 111 51 [some (y_bo 2 0 a0), some (y_bo 0 0 a1), some (y_bo 4 0 a2), some (y_bi x3), some (y_bi x4), some (y_bi x5), none, none] [y_bl (-v2)] m2) (fun e m1 => y_px e m1)) (fun e m1 => y_px e m1) := by
  rw [y_R_eq (md := z_md_111) rfl rfl]
  exact (y_bIc fun v1 m1 => (y_sh (L' := [some (y_bo 2 0 a0), some (y_bo 0 0 a1), some (y_bo 4 0 a2), some (y_bi x3), some (y_bi x4), some (y_bi x5), none, none]) (S' := [y_bi v1, y_bi x5]) rfl rfl (y_ic rfl (y_ic rfl (y_bLc fun v2 m2 => (y_sh (L' := [some (y_bo 2 0 a0), some (y_bo 0 0 a1), some (y_bo 4 0 a2), some (y_bi x3), some (y_bi x4), some (y_bi x5), none, none]) (S' := [y_bl v2]) rfl rfl rfl))))))
set_option maxRecDepth 4000 in
theorem y_E_111_42 (d : Nat) (a0 : Nat) (a1 : Nat) (a2 : Nat) (x3 : Int) (x4 : Int) (x5 : Int) (m : y_m) : y_R sp ph d 111 42 [some (y_bo 2 0 a0), some (y_bo 0 0 a1), some (y_bo 4 0 a2), some (y_bi x3), some (y_bi x4), some (y_bi x5), none, none] [] m = y_bL (y_V sp ph d 52 [y_bo 4 0 a2, y_bo 0 0 a1, y_bi x4, y_bi x5] m) (fun v1 m1 => y_R sp ph d 111 51 [some (y_bo 2 0 a0), some (y_bo 0 0 a1), some (y_bo 4 0 a2), some (y_bi x3), some (y_bi x4), some (y_bi x5), none, none] [y_bl v1] m1) (fun e m1 => y_px e m1) := by
  rw [y_R_eq (md := z_md_111) rfl rfl]
  exact (y_bLc fun v1 m1 => (y_sh (L' := [some (y_bo 2 0 a0), some (y_bo 0 0 a1), some (y_bo 4 0 a2), some (y_bi x3), some (y_bi x4), some (y_bi x5), none, none]) (S' := [y_bl v1]) rfl rfl rfl))
set_option maxRecDepth 4000 in
theorem y_E_111_51 (d : Nat) (a0 : Nat) (a1 : Nat) (a2 : Nat) (x3 : Int) (x4 : Int) (x5 : Int) (xs0 : Int) (m : y_m) : y_R sp ph d 111 51 [some (y_bo 2 0 a0), some (y_bo 0 0 a1), some (y_bo 4 0 a2), some (y_bi x3), some (y_bi x4), some (y_bi x5), none, none] [y_bl xs0] m = if ¬ z_w x3 = 1 then y_R sp ph d 111 76 [some (y_bo 2 0 a0), some (y_bo 0 0 a1), some (y_bo 4 0 a2), some (y_bi x3), some (y_bi x4), some (y_bi x5), some (y_bl xs0), none] [y_bi ((x4 * 12) + x5), y_bo 101 144 11] m else y_R sp ph d 111 78 [some (y_bo 2 0 a0), some (y_bo 0 0 a1), some (y_bo 4 0 a2), some (y_bi x3), some (y_bi x4), some (y_bi x5), none, none] [y_bl (-xs0), y_bi ((x4 * 12) + x5), y_bo 101 144 11] m := (y_R_eq (md := z_md_111) rfl rfl).trans rfl
set_option maxRecDepth 4000 in
theorem y_E_111_76 (d : Nat) (a0 : Nat) (a1 : Nat) (a2 : Nat) (x3 : Int) (x4 : Int) (x5 : Int) (x6 : Int) (xs0 : Int) (as1 : Nat) (m : y_m) : y_R sp ph d 111 76 [some (y_bo 2 0 a0), some (y_bo 0 0 a1), some (y_bo 4 0 a2), some (y_bi x3), some (y_bi x4), some (y_bi x5), some (y_bl x6), none] [y_bi xs0, y_bo 101 144 as1] m = y_R sp ph d 111 78 [some (y_bo 2 0 a0), some (y_bo 0 0 a1), some (y_bo 4 0 a2), some (y_bi x3), some (y_bi x4), some (y_bi x5), none, none] [y_bl x6, y_bi xs0, y_bo 101 144 as1] m := (y_R_eq (md := z_md_111) rfl rfl).trans rfl
set_option maxRecDepth 4000 in
theorem y_E_111_78 (d : Nat) (a0 : Nat) (a1 : Nat) (a2 : Nat) (x3 : Int) (x4 : Int) (x5 : Int) (xs0 : Int) (xs1 : Int) (as2 : Nat) (m : y_m) : y_R sp ph d 111 78 [some (y_bo 2 0 a0), some (y_bo 0 0 a1), some (y_bo 4 0 a2), some (y_bi x3), some (y_bi x4), some (y_bi x5), none, none] [y_bl xs0, y_bi xs1, y_bo 101 144 as2] m = y_bV (y_V sp ph d 10 [y_bo 101 144 as2, y_bi xs1, y_bl xs0] m) (fun m1 => if ¬ z_w (y_mI m1 a1 5) = 0 then y_R sp ph d 111 104 [some (y_bo 2 0 a0), some (y_bo 0 0 a1), some (y_bo 4 0 a2), some (y_bi x3), some (y_bi x4), some (y_bi x5), none, none] [y_bi ((x4 * 12) + x5), y_bo 100 144 12] m1 else y_R sp ph d 111 112 [some (y_bo 2 0 a0), some (y_bo 0 0 a1), some (y_bo 4 0 a2), some (y_bi x3), some (y_bi x4), some (y_bi x5), none, none] [y_bi 0, y_bi ((x4 * 12) + x5), y_bo 100 144 12] m1) (fun e m1 => y_px e m1) := by
  rw [y_R_eq (md := z_md_111) rfl rfl]
  exact (y_bVc fun m1 => (y_sh (L' := [some (y_bo 2 0 a0), some (y_bo 0 0 a1), some (y_bo 4 0 a2), some (y_bi x3), some (y_bi x4), some (y_bi x5), none, none]) (S' := []) rfl rfl rfl))
set_option maxRecDepth 4000 in
theorem y_E_111_104 (d : Nat) (a0 : Nat) (a1 : Nat) (a2 : Nat) (x3 : Int) (x4 : Int) (x5 : Int) (xs0 : Int) (as1 : Nat) (m : y_m) : y_R sp ph d 111 104 [some (y_bo 2 0 a0), some (y_bo 0 0 a1), some (y_bo 4 0 a2), some (y_bi x3), some (y_bi x4), some (y_bi x5), none, none] [y_bi xs0, y_bo 100 144 as1] m = y_bI (y_V sp ph d 45 [y_bo 0 0 a1, y_bi x4, y_bi x5] m) (fun v1 m1 => y_R sp ph d 111 112 [some (y_bo 2 0 a0), some (y_bo 0 0 a1), some (y_bo 4 0 a2), some (y_bi x3), some (y_bi x4), some (y_bi x5), none, none] [y_bi v1, y_bi xs0, y_bo 100 144 as1] m1) (fun e m1 => y_px e m1) := by
  rw [y_R_eq (md := z_md_111) rfl rfl]
  exact (y_bIc fun v1 m1 => (y_sh (L' := [some (y_bo 2 0 a0), some (y_bo 0 0 a1), some (y_bo 4 0 a2), some (y_bi x3), some (y_bi x4), some (y_bi x5), none, none]) (S' := [y_bi v1, y_bi xs0, y_bo 100 144 as1]) rfl rfl rfl))
set_option maxRecDepth 4000 in
theorem y_E_111_112 (d : Nat) (a0 : Nat) (a1 : Nat) (a2 : Nat) (x3 : Int) (x4 : Int) (x5 : Int) (xs0 : Int) (xs1 : Int) (as2 : Nat) (m : y_m) : y_R sp ph d 111 112 [some (y_bo 2 0 a0), some (y_bo 0 0 a1), some (y_bo 4 0 a2), some (y_bi x3), some (y_bi x4), some (y_bi x5), none, none] [y_bi xs0, y_bi xs1, y_bo 100 144 as2] m = y_bV (y_V sp ph d 8 [y_bo 100 144 as2, y_bi xs1, y_bi xs0] m) (fun m1 => y_R sp ph d 111 15 [some (y_bo 2 0 a0), some (y_bo 0 0 a1), some (y_bo 4 0 a2), some (y_bi x3), some (y_bi x4), some (y_bi (x5 + 1)), none, none] [] m1) (fun e m1 => y_px e m1) := by
  rw [y_R_eq (md := z_md_111) rfl rfl]
  exact (y_bVc fun m1 => (y_sh (L' := [some (y_bo 2 0 a0), some (y_bo 0 0 a1), some (y_bo 4 0 a2), some (y_bi x3), some (y_bi x4), some (y_bi x5), none, none]) (S' := []) rfl rfl rfl))
set_option maxRecDepth 4000 in
theorem y_E_111_121 (d : Nat) (a0 : Nat) (a1 : Nat) (a2 : Nat) (x3 : Int) (x4 : Int) (m : y_m) : y_R sp ph d 111 121 [some (y_bo 2 0 a0), some (y_bo 0 0 a1), some (y_bo 4 0 a2), some (y_bi x3), some (y_bi x4), none, none, none] [] m = y_R sp ph d 111 3 [some (y_bo 2 0 a0), some (y_bo 0 0 a1), some (y_bo 4 0 a2), some (y_bi x3), some (y_bi (x4 + 1)), none, none, none] [] m := (y_R_eq (md := z_md_111) rfl rfl).trans rfl
set_option maxRecDepth 4000 in
theorem y_E_111_127 (d : Nat) (m : y_m) : y_R sp ph d 111 127 [none, none, none, none, none, none, none, none] [] m = y_rV m := (y_R_eq (md := z_md_111) rfl rfl).trans rfl
set_option maxRecDepth 4000 in
theorem y_C_111 (d : Nat) (a0 : Nat) (a1 : Nat) (a2 : Nat) (x3 : Int) (m : y_m) : y_V sp ph (d + 1) 111 [y_bo 2 0 a0, y_bo 0 0 a1, y_bo 4 0 a2, y_bi x3] m = y_R sp ph d 111 0 [some (y_bo 2 0 a0), some (y_bo 0 0 a1), some (y_bo 4 0 a2), some (y_bi x3), none, none, none, none] [] m := (y_V_eq (md := z_md_111) rfl rfl rfl).trans rfl
/-! LacedHoles$Finder.cost (II)J -/
set_option maxRecDepth 4000 in
theorem y_E_112_0 (d : Nat) (a0 : Nat) (x1 : Int) (x2 : Int) (m : y_m) : y_R sp ph d 112 0 [some (y_bo 2 0 a0), some (y_bi x1), some (y_bi x2)] [] m = y_bL (y_V sp ph d 9 [y_bo 101 144 11, y_bi ((x1 * 12) + x2)] m) (fun v1 m1 => y_rL v1 m1) (fun e m1 => y_px e m1) := by
  rw [y_R_eq (md := z_md_112) rfl rfl]
  exact (y_bLc fun v1 m1 => (y_sh (L' := [some (y_bo 2 0 a0), some (y_bi x1), some (y_bi x2)]) (S' := [y_bl v1]) rfl rfl rfl))
set_option maxRecDepth 4000 in
theorem y_C_112 (d : Nat) (a0 : Nat) (x1 : Int) (x2 : Int) (m : y_m) : y_V sp ph (d + 1) 112 [y_bo 2 0 a0, y_bi x1, y_bi x2] m = y_R sp ph d 112 0 [some (y_bo 2 0 a0), some (y_bi x1), some (y_bi x2)] [] m := (y_V_eq (md := z_md_112) rfl rfl rfl).trans rfl
/-! LacedHoles$Finder.kind (II)I -/
set_option maxRecDepth 4000 in
theorem y_E_113_0 (d : Nat) (a0 : Nat) (x1 : Int) (x2 : Int) (m : y_m) : y_R sp ph d 113 0 [some (y_bo 2 0 a0), some (y_bi x1), some (y_bi x2)] [] m = y_bI (y_V sp ph d 7 [y_bo 100 144 12, y_bi ((x1 * 12) + x2)] m) (fun v1 m1 => y_rI v1 m1) (fun e m1 => y_px e m1) := by
  rw [y_R_eq (md := z_md_113) rfl rfl]
  exact (y_bIc fun v1 m1 => (y_sh (L' := [some (y_bo 2 0 a0), some (y_bi x1), some (y_bi x2)]) (S' := [y_bi v1]) rfl rfl rfl))
set_option maxRecDepth 4000 in
theorem y_C_113 (d : Nat) (a0 : Nat) (x1 : Int) (x2 : Int) (m : y_m) : y_V sp ph (d + 1) 113 [y_bo 2 0 a0, y_bi x1, y_bi x2] m = y_R sp ph d 113 0 [some (y_bo 2 0 a0), some (y_bi x1), some (y_bi x2)] [] m := (y_V_eq (md := z_md_113) rfl rfl rfl).trans rfl
/-! LacedHoles$Finder.cellOf (II)I -/
set_option maxRecDepth 4000 in
theorem y_E_114_0 (d : Nat) (x0 : Int) (x1 : Int) (m : y_m) : y_R sp ph d 114 0 [some (y_bi x0), some (y_bi x1)] [] m = y_rI (((x0 * 12) + x1) * 4) m := (y_R_eq (md := z_md_114) rfl rfl).trans rfl
set_option maxRecDepth 4000 in
theorem y_C_114 (d : Nat) (x0 : Int) (x1 : Int) (m : y_m) : y_V sp ph (d + 1) 114 [y_bi x0, y_bi x1] m = y_R sp ph d 114 0 [some (y_bi x0), some (y_bi x1)] [] m := (y_V_eq (md := z_md_114) rfl rfl rfl).trans rfl
/-! LacedHoles$Finder.solveSet (LLacedHoles$Boot;I)V -/
set_option maxRecDepth 4000 in
theorem y_E_115_0 (d : Nat) (a0 : Nat) (a1 : Nat) (x2 : Int) (m : y_m) : y_R sp ph d 115 0 [some (y_bo 2 0 a0), some (y_bo 0 0 a1), some (y_bi x2), none, none, none] [] m = y_bI (y_V sp ph d 0 [y_bi x2] m) (fun v1 m1 => y_R sp ph d 115 18 [some (y_bo 2 0 a0), some (y_bo 0 0 a1), some (y_bi x2), some (y_bi (z_iand x2 (x2 - 1))), some (y_bi v1), some (y_bi (v1 + 1))] [] m1) (fun e m1 => y_px e m1) := by
  rw [y_R_eq (md := z_md_115) rfl rfl]
  exact (y_bIc fun v1 m1 => (y_sh (L' := [some (y_bo 2 0 a0), some (y_bo 0 0 a1), some (y_bi x2), some (y_bi (z_iand x2 (x2 - 1))), none, none]) (S' := [y_bi v1]) rfl rfl rfl))
set_option maxRecDepth 4000 in
theorem y_E_115_18 (d : Nat) (a0 : Nat) (a1 : Nat) (x2 : Int) (x3 : Int) (x4 : Int) (x5 : Int) (m : y_m) : y_R sp ph d 115 18 [some (y_bo 2 0 a0), some (y_bo 0 0 a1), some (y_bi x2), some (y_bi x3), some (y_bi x4), some (y_bi x5)] [] m = if 12 ≤ z_w x5 then y_R sp ph d 115 50 [none, none, none, none, none, none] [] m else if z_w (z_iand (z_ishr x3 x5) 1) = 0 then y_R sp ph d 115 44 [some (y_bo 2 0 a0), some (y_bo 0 0 a1), some (y_bi x2), some (y_bi x3), some (y_bi x4), some (y_bi x5)] [] m else y_bV (y_V sp ph d 116 [y_bo 2 0 a0, y_bo 0 0 a1, y_bi x2, y_bi x4, y_bi x5] m) (fun m1 => y_R sp ph d 115 44 [some (y_bo 2 0 a0), some (y_bo 0 0 a1), some (y_bi x2), some (y_bi x3), some (y_bi x4), some (y_bi x5)] [] m1) (fun e m1 => y_px e m1) := by
  rw [y_R_eq (md := z_md_115) rfl rfl]
  exact (y_ic rfl (y_ic rfl (y_bVc fun m1 => (y_sh (L' := [some (y_bo 2 0 a0), some (y_bo 0 0 a1), some (y_bi x2), some (y_bi x3), some (y_bi x4), some (y_bi x5)]) (S' := []) rfl rfl rfl))))
set_option maxRecDepth 4000 in
theorem y_E_115_44 (d : Nat) (a0 : Nat) (a1 : Nat) (x2 : Int) (x3 : Int) (x4 : Int) (x5 : Int) (m : y_m) : y_R sp ph d 115 44 [some (y_bo 2 0 a0), some (y_bo 0 0 a1), some (y_bi x2), some (y_bi x3), some (y_bi x4), some (y_bi x5)] [] m = y_R sp ph d 115 18 [some (y_bo 2 0 a0), some (y_bo 0 0 a1), some (y_bi x2), some (y_bi x3), some (y_bi x4), some (y_bi (x5 + 1))] [] m := (y_R_eq (md := z_md_115) rfl rfl).trans rfl
set_option maxRecDepth 4000 in
theorem y_E_115_50 (d : Nat) (m : y_m) : y_R sp ph d 115 50 [none, none, none, none, none, none] [] m = y_rV m := (y_R_eq (md := z_md_115) rfl rfl).trans rfl
set_option maxRecDepth 4000 in
theorem y_C_115 (d : Nat) (a0 : Nat) (a1 : Nat) (x2 : Int) (m : y_m) : y_V sp ph (d + 1) 115 [y_bo 2 0 a0, y_bo 0 0 a1, y_bi x2] m = y_R sp ph d 115 0 [some (y_bo 2 0 a0), some (y_bo 0 0 a1), some (y_bi x2), none, none, none] [] m := (y_V_eq (md := z_md_115) rfl rfl rfl).trans rfl
/-! LacedHoles$Finder.solveCell (LLacedHoles$Boot;III)V -/
set_option maxRecDepth 4000 in
theorem y_E_116_0 (d : Nat) (a0 : Nat) (a1 : Nat) (x2 : Int) (x3 : Int) (x4 : Int) (m : y_m) : y_R sp ph d 116 0 [some (y_bo 2 0 a0), some (y_bo 0 0 a1), some (y_bi x2), some (y_bi x3), some (y_bi x4), none, none, none, none] [] m = y_bI (y_V sp ph d 114 [y_bi x2, y_bi x4] m) (fun v1 m1 => y_R sp ph d 116 11 [some (y_bo 2 0 a0), some (y_bo 0 0 a1), some (y_bi x2), some (y_bi x3), some (y_bi x4), some (y_bi v1), some (y_bi 0), none, none] [] m1) (fun e m1 => y_px e m1) := by
  rw [y_R_eq (md := z_md_116) rfl rfl]
  exact (y_bIc fun v1 m1 => (y_sh (L' := [some (y_bo 2 0 a0), some (y_bo 0 0 a1), some (y_bi x2), some (y_bi x3), some (y_bi x4), none, none, none, none]) (S' := [y_bi v1]) rfl rfl rfl))
set_option maxRecDepth 4000 in
theorem y_E_116_11 (d : Nat) (a0 : Nat) (a1 : Nat) (x2 : Int) (x3 : Int) (x4 : Int) (x5 : Int) (x6 : Int) (m : y_m) : y_R sp ph d 116 11 [some (y_bo 2 0 a0), some (y_bo 0 0 a1), some (y_bi x2), some (y_bi x3), some (y_bi x4), some (y_bi x5), some (y_bi x6), none, none] [] m = if 4 ≤ z_w x6 then y_R sp ph d 116 38 [some (y_bo 2 0 a0), some (y_bo 0 0 a1), some (y_bi x2), some (y_bi x3), some (y_bi x4), some (y_bi x5), none, none, none] [] m else y_bV (y_V sp ph d 10 [y_bo 101 196608 9, y_bi (x5 + x6), y_bl 9223372036854775807] m) (fun m1 => y_R sp ph d 116 11 [some (y_bo 2 0 a0), some (y_bo 0 0 a1), some (y_bi x2), some (y_bi x3), some (y_bi x4), some (y_bi x5), some (y_bi (x6 + 1)), none, none] [] m1) (fun e m1 => y_px e m1) := by
  rw [y_R_eq (md := z_md_116) rfl rfl]
  exact (y_ic rfl (y_bVc fun m1 => (y_sh (L' := [some (y_bo 2 0 a0), some (y_bo 0 0 a1), some (y_bi x2), some (y_bi x3), some (y_bi x4), some (y_bi x5), some (y_bi x6), none, none]) (S' := []) rfl rfl rfl)))
set_option maxRecDepth 4000 in
theorem y_E_116_38 (d : Nat) (a0 : Nat) (a1 : Nat) (x2 : Int) (x3 : Int) (x4 : Int) (x5 : Int) (m : y_m) : y_R sp ph d 116 38 [some (y_bo 2 0 a0), some (y_bo 0 0 a1), some (y_bi x2), some (y_bi x3), some (y_bi x4), some (y_bi x5), none, none, none] [] m = if ¬ z_w (z_iand x2 (z_ixor (z_ishl 1 x4) (-1))) = z_w (z_ishl 1 x3) then y_R sp ph d 116 83 [some (y_bo 2 0 a0), some (y_bo 0 0 a1), none, some (y_bi x3), some (y_bi x4), some (y_bi x5), some (y_bi (z_iand x2 (z_ixor (z_ishl 1 x4) (-1)))), none, none] [] m else y_bI (y_V sp ph d 113 [y_bo 2 0 a0, y_bi x3, y_bi x4] m) (fun v1 m1 => y_bL (y_V sp ph d 112 [y_bo 2 0 a0, y_bi x3, y_bi x4] m1) (fun v2 m2 => y_bV (y_V sp ph d 10 [y_bo 101 196608 9, y_bi (x5 + (3 * v1)), y_bl v2] m2) (fun m3 => y_rV m3) (fun e m1 => y_px e m1)) (fun e m1 => y_px e m1)) (fun e m1 => y_px e m1) := by
  rw [y_R_eq (md := z_md_116) rfl rfl]
  exact (y_ic rfl (y_bIc fun v1 m1 => (y_sh (L' := [some (y_bo 2 0 a0), some (y_bo 0 0 a1), some (y_bi x2), some (y_bi x3), some (y_bi x4), some (y_bi x5), some (y_bi (z_iand x2 (z_ixor (z_ishl 1 x4) (-1)))), none, none]) (S' := [y_bi v1, y_bi 3, y_bi x5, y_bo 101 196608 9]) rfl rfl (y_bLc fun v2 m2 => (y_sh (L' := [some (y_bo 2 0 a0), some (y_bo 0 0 a1), some (y_bi x2), some (y_bi x3), some (y_bi x4), some (y_bi x5), some (y_bi (z_iand x2 (z_ixor (z_ishl 1 x4) (-1)))), none, none]) (S' := [y_bl v2, y_bi (x5 + (3 * v1)), y_bo 101 196608 9]) rfl rfl (y_bVc fun m3 => (y_sh (L' := [some (y_bo 2 0 a0), some (y_bo 0 0 a1), some (y_bi x2), some (y_bi x3), some (y_bi x4), some (y_bi x5), some (y_bi (z_iand x2 (z_ixor (z_ishl 1 x4) (-1)))), none, none]) (S' := []) rfl rfl rfl)))))))
set_option maxRecDepth 4000 in
theorem y_E_116_83 (d : Nat) (a0 : Nat) (a1 : Nat) (x3 : Int) (x4 : Int) (x5 : Int) (x6 : Int) (m : y_m) : y_R sp ph d 116 83 [some (y_bo 2 0 a0), some (y_bo 0 0 a1), none, some (y_bi x3), some (y_bi x4), some (y_bi x5), some (y_bi x6), none, none] [] m = y_R sp ph d 116 88 [some (y_bo 2 0 a0), some (y_bo 0 0 a1), none, none, some (y_bi x4), some (y_bi x5), some (y_bi x6), some (y_bi (x3 + 1)), none] [] m := (y_R_eq (md := z_md_116) rfl rfl).trans rfl
set_option maxRecDepth 4000 in
theorem y_E_116_88 (d : Nat) (a0 : Nat) (a1 : Nat) (x4 : Int) (x5 : Int) (x6 : Int) (x7 : Int) (m : y_m) : y_R sp ph d 116 88 [some (y_bo 2 0 a0), some (y_bo 0 0 a1), none, none, some (y_bi x4), some (y_bi x5), some (y_bi x6), some (y_bi x7), none] [] m = if 12 ≤ z_w x7 then y_R sp ph d 116 150 [none, none, none, none, none, none, none, none, none] [] m else if z_w (z_iand (z_ishr x6 x7) 1) = 0 then y_R sp ph d 116 144 [some (y_bo 2 0 a0), some (y_bo 0 0 a1), none, none, some (y_bi x4), some (y_bi x5), some (y_bi x6), some (y_bi x7), none] [] m else y_bI (y_V sp ph d 113 [y_bo 2 0 a0, y_bi x7, y_bi x4] m) (fun v1 m1 => y_bI (y_V sp ph d 114 [y_bi x6, y_bi x7] m1) (fun v2 m2 => y_bL (y_V sp ph d 112 [y_bo 2 0 a0, y_bi x7, y_bi x4] m2) (fun v3 m3 => y_bV (y_V sp ph d 117 [y_bo 2 0 a0, y_bo 0 0 a1, y_bi v2, y_bi (x5 + (2 * v1)), y_bi v1, y_bl v3] m3) (fun m4 => y_R sp ph d 116 144 [some (y_bo 2 0 a0), some (y_bo 0 0 a1), none, none, some (y_bi x4), some (y_bi x5), some (y_bi x6), some (y_bi x7), none] [] m4) (fun e m1 => y_px e m1)) (fun e m1 => y_px e m1)) (fun e m1 => y_px e m1)) (fun e m1 => y_px e m1) := by
  rw [y_R_eq (md := z_md_116) rfl rfl]
  exact (y_ic rfl (y_ic rfl (y_bIc fun v1 m1 => (y_sh (L' := [some (y_bo 2 0 a0), some (y_bo 0 0 a1), none, none, some (y_bi x4), some (y_bi x5), some (y_bi x6), some (y_bi x7), none]) (S' := [y_bi v1]) rfl rfl (y_bIc fun v2 m2 => (y_sh (L' := [some (y_bo 2 0 a0), some (y_bo 0 0 a1), none, none, some (y_bi x4), some (y_bi x5), some (y_bi x6), some (y_bi x7), some (y_bi v1)]) (S' := [y_bi v2, y_bo 0 0 a1, y_bo 2 0 a0]) rfl rfl (y_bLc fun v3 m3 => (y_sh (L' := [some (y_bo 2 0 a0), some (y_bo 0 0 a1), none, none, some (y_bi x4), some (y_bi x5), some (y_bi x6), some (y_bi x7), some (y_bi v1)]) (S' := [y_bl v3, y_bi v1, y_bi (x5 + (2 * v1)), y_bi v2, y_bo 0 0 a1, y_bo 2 0 a0]) rfl rfl (y_bVc fun m4 => (y_sh (L' := [some (y_bo 2 0 a0), some (y_bo 0 0 a1), none, none, some (y_bi x4), some (y_bi x5), some (y_bi x6), some (y_bi x7), some (y_bi v1)]) (S' := []) rfl rfl rfl))))))))))
set_option maxRecDepth 4000 in
theorem y_E_116_144 (d : Nat) (a0 : Nat) (a1 : Nat) (x4 : Int) (x5 : Int) (x6 : Int) (x7 : Int) (m : y_m) : y_R sp ph d 116 144 [some (y_bo 2 0 a0), some (y_bo 0 0 a1), none, none, some (y_bi x4), some (y_bi x5), some (y_bi x6), some (y_bi x7), none] [] m = y_R sp ph d 116 88 [some (y_bo 2 0 a0), some (y_bo 0 0 a1), none, none, some (y_bi x4), some (y_bi x5), some (y_bi x6), some (y_bi (x7 + 1)), none] [] m := (y_R_eq (md := z_md_116) rfl rfl).trans rfl
set_option maxRecDepth 4000 in
theorem y_E_116_150 (d : Nat) (m : y_m) : y_R sp ph d 116 150 [none, none, none, none, none, none, none, none, none] [] m = y_rV m := (y_R_eq (md := z_md_116) rfl rfl).trans rfl
set_option maxRecDepth 4000 in
theorem y_C_116 (d : Nat) (a0 : Nat) (a1 : Nat) (x2 : Int) (x3 : Int) (x4 : Int) (m : y_m) : y_V sp ph (d + 1) 116 [y_bo 2 0 a0, y_bo 0 0 a1, y_bi x2, y_bi x3, y_bi x4] m = y_R sp ph d 116 0 [some (y_bo 2 0 a0), some (y_bo 0 0 a1), some (y_bi x2), some (y_bi x3), some (y_bi x4), none, none, none, none] [] m := (y_V_eq (md := z_md_116) rfl rfl rfl).trans rfl
/-! LacedHoles$Finder.extend (LLacedHoles$Boot;IIIJ)V -/
set_option maxRecDepth 4000 in
theorem y_E_117_0 (d : Nat) (a0 : Nat) (a1 : Nat) (x2 : Int) (x3 : Int) (x4 : Int) (x5 : Int) (m : y_m) : y_R sp ph d 117 0 [some (y_bo 2 0 a0), some (y_bo 0 0 a1), some (y_bi x2), some (y_bi x3), some (y_bi x4), some (y_bl x5), none, none, none, none, none, none] [] m = if z_w x2 < 0 then y_R sp ph d 117 30 [none, none, none, none, none, none, none, none, none, none, none, none] [] m else if z_w (196608 : Int) ≤ z_w (x2 + 3) then y_R sp ph d 117 30 [none, none, none, none, none, none, none, none, none, none, none, none] [] m else if z_w x3 < 0 then y_R sp ph d 117 30 [none, none, none, none, none, none, none, none, none, none, none, none] [] m else if z_w (x3 + 1) < z_w (196608 : Int) then y_R sp ph d 117 31 [some (y_bo 2 0 a0), some (y_bo 0 0 a1), some (y_bi x2), some (y_bi x3), some (y_bi x4), some (y_bl x5), none, none, none, none, none, none] [] m else y_R sp ph d 117 30 [none, none, none, none, none, none, none, none, none, none, none, none] [] m := (y_R_eq (md := z_md_117) rfl rfl).trans rfl
set_option maxRecDepth 4000 in
theorem y_E_117_30 (d : Nat) (m : y_m) : y_R sp ph d 117 30 [none, none, none, none, none, none, none, none, none, none, none, none] [] m = y_rV m := (y_R_eq (md := z_md_117) rfl rfl).trans rfl
set_option maxRecDepth 4000 in
theorem y_E_117_31 (d : Nat) (a0 : Nat) (a1 : Nat) (x2 : Int) (x3 : Int) (x4 : Int) (x5 : Int) (m : y_m) : y_R sp ph d 117 31 [some (y_bo 2 0 a0), some (y_bo 0 0 a1), some (y_bi x2), some (y_bi x3), some (y_bi x4), some (y_bl x5), none, none, none, none, none, none] [] m = if ¬ z_w (y_mI m a1 5) = 0 then y_R sp ph d 117 42 [some (y_bo 2 0 a0), some (y_bo 0 0 a1), some (y_bi x2), some (y_bi x3), some (y_bi x4), some (y_bl x5), none, none, none, none, none, none] [] m else y_R sp ph d 117 43 [some (y_bo 2 0 a0), some (y_bo 0 0 a1), some (y_bi x2), some (y_bi x3), some (y_bi x4), some (y_bl x5), none, none, none, none, none, none] [y_bi 0] m := (y_R_eq (md := z_md_117) rfl rfl).trans rfl
set_option maxRecDepth 4000 in
theorem y_E_117_42 (d : Nat) (a0 : Nat) (a1 : Nat) (x2 : Int) (x3 : Int) (x4 : Int) (x5 : Int) (m : y_m) : y_R sp ph d 117 42 [some (y_bo 2 0 a0), some (y_bo 0 0 a1), some (y_bi x2), some (y_bi x3), some (y_bi x4), some (y_bl x5), none, none, none, none, none, none] [] m = y_R sp ph d 117 43 [some (y_bo 2 0 a0), some (y_bo 0 0 a1), some (y_bi x2), some (y_bi x3), some (y_bi x4), some (y_bl x5), none, none, none, none, none, none] [y_bi 1] m := (y_R_eq (md := z_md_117) rfl rfl).trans rfl
set_option maxRecDepth 4000 in
theorem y_E_117_43 (d : Nat) (a0 : Nat) (a1 : Nat) (x2 : Int) (x3 : Int) (x4 : Int) (x5 : Int) (xs0 : Int) (m : y_m) : y_R sp ph d 117 43 [some (y_bo 2 0 a0), some (y_bo 0 0 a1), some (y_bi x2), some (y_bi x3), some (y_bi x4), some (y_bl x5), none, none, none, none, none, none] [y_bi xs0] m = y_R sp ph d 117 48 [some (y_bo 2 0 a0), some (y_bo 0 0 a1), some (y_bi x2), some (y_bi x3), some (y_bi x4), some (y_bl x5), none, some (y_bi xs0), some (y_bi 0), none, none, none] [] m := (y_R_eq (md := z_md_117) rfl rfl).trans rfl
set_option maxRecDepth 4000 in
theorem y_E_117_48 (d : Nat) (a0 : Nat) (a1 : Nat) (x2 : Int) (x3 : Int) (x4 : Int) (x5 : Int) (x7 : Int) (x8 : Int) (m : y_m) : y_R sp ph d 117 48 [some (y_bo 2 0 a0), some (y_bo 0 0 a1), some (y_bi x2), some (y_bi x3), some (y_bi x4), some (y_bl x5), none, some (y_bi x7), some (y_bi x8), none, none, none] [] m = if z_w x7 < z_w x8 then y_R sp ph d 117 145 [none, none, none, none, none, none, none, none, none, none, none, none] [] m else y_bI (y_V sp ph d 46 [y_bo 0 0 a1, y_bi x8, y_bi x4] m) (fun v1 m1 => if z_w v1 = 0 then y_R sp ph d 117 139 [some (y_bo 2 0 a0), some (y_bo 0 0 a1), some (y_bi x2), some (y_bi x3), some (y_bi x4), some (y_bl x5), none, some (y_bi x7), some (y_bi x8), none, none, none] [] m1 else y_R sp ph d 117 69 [some (y_bo 2 0 a0), some (y_bo 0 0 a1), some (y_bi x2), some (y_bi x3), some (y_bi x4), some (y_bl x5), none, some (y_bi x7), some (y_bi x8), some (y_bi 0), none, none] [] m1) (fun e m1 => y_px e m1) := by
  rw [y_R_eq (md := z_md_117) rfl rfl]
  exact (y_ic rfl (y_bIc fun v1 m1 => (y_sh (L' := [some (y_bo 2 0 a0), some (y_bo 0 0 a1), some (y_bi x2), some (y_bi x3), some (y_bi x4), some (y_bl x5), none, some (y_bi x7), some (y_bi x8), none, none, none]) (S' := [y_bi v1]) rfl rfl rfl)))
set_option maxRecDepth 4000 in
theorem y_E_117_69 (d : Nat) (a0 : Nat) (a1 : Nat) (x2 : Int) (x3 : Int) (x4 : Int) (x5 : Int) (x7 : Int) (x8 : Int) (x9 : Int) (m : y_m) : y_R sp ph d 117 69 [some (y_bo 2 0 a0), some (y_bo 0 0 a1), some (y_bi x2), some (y_bi x3), some (y_bi x4), some (y_bl x5), none, some (y_bi x7), some (y_bi x8), some (y_bi x9), none, none] [] m = if z_w x7 < z_w x9 then y_R sp ph d 117 139 [some (y_bo 2 0 a0), some (y_bo 0 0 a1), some (y_bi x2), some (y_bi x3), some (y_bi x4), some (y_bl x5), none, some (y_bi x7), some (y_bi x8), none, none, none] [] m else y_g (0 ≤ (x2 + (2 * x8)) + x9 ∧ (x2 + (2 * x8)) + x9 < (196608 : Int)) (if z_w (z_lcmp (y_mJ m 9 ((x2 + (2 * x8)) + x9).toNat) 9223372036854775807) = 0 then y_R sp ph d 117 133 [some (y_bo 2 0 a0), some (y_bo 0 0 a1), some (y_bi x2), some (y_bi x3), some (y_bi x4), some (y_bl x5), none, some (y_bi x7), some (y_bi x8), some (y_bi x9), none, none] [] m else y_g (0 ≤ x3 + x9 ∧ x3 + x9 < (196608 : Int)) (if 0 ≤ z_w (z_lcmp ((y_mJ m 9 ((x2 + (2 * x8)) + x9).toNat) + x5) (y_mJ m 9 (x3 + x9).toNat)) then y_R sp ph d 117 133 [some (y_bo 2 0 a0), some (y_bo 0 0 a1), some (y_bi x2), some (y_bi x3), some (y_bi x4), some (y_bl x5), none, some (y_bi x7), some (y_bi x8), some (y_bi x9), none, none] [] m else y_g (0 ≤ x3 + x9 ∧ x3 + x9 < (196608 : Int)) (y_R sp ph d 117 133 [some (y_bo 2 0 a0), some (y_bo 0 0 a1), some (y_bi x2), some (y_bi x3), some (y_bi x4), some (y_bl x5), none, some (y_bi x7), some (y_bi x8), some (y_bi x9), none, none] [] (y_sJ m 9 (x3 + x9).toNat ((y_mJ m 9 ((x2 + (2 * x8)) + x9).toNat) + x5))))) := (y_R_eq (md := z_md_117) rfl rfl).trans rfl
set_option maxRecDepth 4000 in
theorem y_E_117_133 (d : Nat) (a0 : Nat) (a1 : Nat) (x2 : Int) (x3 : Int) (x4 : Int) (x5 : Int) (x7 : Int) (x8 : Int) (x9 : Int) (m : y_m) : y_R sp ph d 117 133 [some (y_bo 2 0 a0), some (y_bo 0 0 a1), some (y_bi x2), some (y_bi x3), some (y_bi x4), some (y_bl x5), none, some (y_bi x7), some (y_bi x8), some (y_bi x9), none, none] [] m = y_R sp ph d 117 69 [some (y_bo 2 0 a0), some (y_bo 0 0 a1), some (y_bi x2), some (y_bi x3), some (y_bi x4), some (y_bl x5), none, some (y_bi x7), some (y_bi x8), some (y_bi (x9 + 1)), none, none] [] m := (y_R_eq (md := z_md_117) rfl rfl).trans rfl
set_option maxRecDepth 4000 in
theorem y_E_117_139 (d : Nat) (a0 : Nat) (a1 : Nat) (x2 : Int) (x3 : Int) (x4 : Int) (x5 : Int) (x7 : Int) (x8 : Int) (m : y_m) : y_R sp ph d 117 139 [some (y_bo 2 0 a0), some (y_bo 0 0 a1), some (y_bi x2), some (y_bi x3), some (y_bi x4), some (y_bl x5), none, some (y_bi x7), some (y_bi x8), none, none, none] [] m = y_R sp ph d 117 48 [some (y_bo 2 0 a0), some (y_bo 0 0 a1), some (y_bi x2), some (y_bi x3), some (y_bi x4), some (y_bl x5), none, some (y_bi x7), some (y_bi (x8 + 1)), none, none, none] [] m := (y_R_eq (md := z_md_117) rfl rfl).trans rfl
set_option maxRecDepth 4000 in
theorem y_E_117_145 (d : Nat) (m : y_m) : y_R sp ph d 117 145 [none, none, none, none, none, none, none, none, none, none, none, none] [] m = y_rV m := (y_R_eq (md := z_md_117) rfl rfl).trans rfl
set_option maxRecDepth 4000 in
theorem y_C_117 (d : Nat) (a0 : Nat) (a1 : Nat) (x2 : Int) (x3 : Int) (x4 : Int) (x5 : Int) (m : y_m) : y_V sp ph (d + 1) 117 [y_bo 2 0 a0, y_bo 0 0 a1, y_bi x2, y_bi x3, y_bi x4, y_bl x5] m = y_R sp ph d 117 0 [some (y_bo 2 0 a0), some (y_bo 0 0 a1), some (y_bi x2), some (y_bi x3), some (y_bi x4), some (y_bl x5), none, none, none, none, none, none] [] m := (y_V_eq (md := z_md_117) rfl rfl rfl).trans rfl
/-! LacedHoles$Finder.homeward (LLacedHoles$Boot;IIII)J -/
set_option maxRecDepth 4000 in
theorem y_E_118_0 (d : Nat) (a0 : Nat) (a1 : Nat) (x2 : Int) (x3 : Int) (x4 : Int) (x5 : Int) (m : y_m) : y_R sp ph d 118 0 [some (y_bo 2 0 a0), some (y_bo 0 0 a1), some (y_bi x2), some (y_bi x3), some (y_bi x4), some (y_bi x5), none, none, none, none, none, none] [] m = y_bI (y_V sp ph d 114 [y_bi x2, y_bi x3] m) (fun v1 m1 => if ¬ z_w (y_mI m1 a1 5) = 0 then y_R sp ph d 118 18 [some (y_bo 2 0 a0), some (y_bo 0 0 a1), none, none, some (y_bi x4), some (y_bi x5), some (y_bi v1), none, none, none, none, none] [] m1 else y_R sp ph d 118 19 [some (y_bo 2 0 a0), some (y_bo 0 0 a1), none, none, some (y_bi x4), some (y_bi x5), some (y_bi v1), none, none, none, none, none] [y_bi 0] m1) (fun e m1 => y_px e m1) := by
  rw [y_R_eq (md := z_md_118) rfl rfl]
  exact (y_bIc fun v1 m1 => (y_sh (L' := [some (y_bo 2 0 a0), some (y_bo 0 0 a1), some (y_bi x2), some (y_bi x3), some (y_bi x4), some (y_bi x5), none, none, none, none, none, none]) (S' := [y_bi v1]) rfl rfl rfl))
set_option maxRecDepth 4000 in
theorem y_E_118_18 (d : Nat) (a0 : Nat) (a1 : Nat) (x4 : Int) (x5 : Int) (x6 : Int) (m : y_m) : y_R sp ph d 118 18 [some (y_bo 2 0 a0), some (y_bo 0 0 a1), none, none, some (y_bi x4), some (y_bi x5), some (y_bi x6), none, none, none, none, none] [] m = y_R sp ph d 118 19 [some (y_bo 2 0 a0), some (y_bo 0 0 a1), none, none, some (y_bi x4), some (y_bi x5), some (y_bi x6), none, none, none, none, none] [y_bi 1] m := (y_R_eq (md := z_md_118) rfl rfl).trans rfl
set_option maxRecDepth 4000 in
theorem y_E_118_19 (d : Nat) (a0 : Nat) (a1 : Nat) (x4 : Int) (x5 : Int) (x6 : Int) (xs0 : Int) (m : y_m) : y_R sp ph d 118 19 [some (y_bo 2 0 a0), some (y_bo 0 0 a1), none, none, some (y_bi x4), some (y_bi x5), some (y_bi x6), none, none, none, none, none] [y_bi xs0] m = y_R sp ph d 118 29 [some (y_bo 2 0 a0), some (y_bo 0 0 a1), none, none, some (y_bi x4), some (y_bi x5), some (y_bi x6), some (y_bi xs0), some (y_bl 9223372036854775807), none, some (y_bi 0), none] [] m := (y_R_eq (md := z_md_118) rfl rfl).trans rfl
set_option maxRecDepth 4000 in
theorem y_E_118_29 (d : Nat) (a0 : Nat) (a1 : Nat) (x4 : Int) (x5 : Int) (x6 : Int) (x7 : Int) (x8 : Int) (x10 : Int) (m : y_m) : y_R sp ph d 118 29 [some (y_bo 2 0 a0), some (y_bo 0 0 a1), none, none, some (y_bi x4), some (y_bi x5), some (y_bi x6), some (y_bi x7), some (y_bl x8), none, some (y_bi x10), none] [] m = if z_w x7 < z_w x10 then y_R sp ph d 118 104 [none, none, none, none, none, none, none, none, some (y_bl x8), none, none, none] [] m else y_R sp ph d 118 39 [some (y_bo 2 0 a0), some (y_bo 0 0 a1), none, none, some (y_bi x4), some (y_bi x5), some (y_bi x6), some (y_bi x7), some (y_bl x8), none, some (y_bi x10), some (y_bi 0)] [] m := (y_R_eq (md := z_md_118) rfl rfl).trans rfl
set_option maxRecDepth 4000 in
theorem y_E_118_39 (d : Nat) (a0 : Nat) (a1 : Nat) (x4 : Int) (x5 : Int) (x6 : Int) (x7 : Int) (x8 : Int) (x10 : Int) (x11 : Int) (m : y_m) : y_R sp ph d 118 39 [some (y_bo 2 0 a0), some (y_bo 0 0 a1), none, none, some (y_bi x4), some (y_bi x5), some (y_bi x6), some (y_bi x7), some (y_bl x8), none, some (y_bi x10), some (y_bi x11)] [] m = if z_w x7 < z_w x11 then y_R sp ph d 118 98 [some (y_bo 2 0 a0), some (y_bo 0 0 a1), none, none, some (y_bi x4), some (y_bi x5), some (y_bi x6), some (y_bi x7), some (y_bl x8), none, some (y_bi x10), none] [] m else y_bI (y_V sp ph d 46 [y_bo 0 0 a1, y_bi x10, y_bi x4] m) (fun v1 m1 => if z_w v1 = 0 then y_R sp ph d 118 92 [some (y_bo 2 0 a0), some (y_bo 0 0 a1), none, none, some (y_bi x4), some (y_bi x5), some (y_bi x6), some (y_bi x7), some (y_bl x8), none, some (y_bi x10), some (y_bi x11)] [] m1 else y_bI (y_V sp ph d 46 [y_bo 0 0 a1, y_bi x11, y_bi x5] m1) (fun v2 m2 => if z_w v2 = 0 then y_R sp ph d 118 92 [some (y_bo 2 0 a0), some (y_bo 0 0 a1), none, none, some (y_bi x4), some (y_bi x5), some (y_bi x6), some (y_bi x7), some (y_bl x8), none, some (y_bi x10), some (y_bi x11)] [] m2 else y_bL (y_V sp ph d 9 [y_bo 101 196608 9, y_bi ((x6 + (2 * x10)) + x11)] m2) (fun v3 m3 => y_bL (y_V sp ph d 6 [y_bl x8, y_bl v3] m3) (fun v4 m4 => y_R sp ph d 118 92 [some (y_bo 2 0 a0), some (y_bo 0 0 a1), none, none, some (y_bi x4), some (y_bi x5), some (y_bi x6), some (y_bi x7), some (y_bl v4), none, some (y_bi x10), some (y_bi x11)] [] m4) (fun e m1 => y_px e m1)) (fun e m1 => y_px e m1)) (fun e m1 => y_px e m1)) (fun e m1 => y_px e m1) := by
  rw [y_R_eq (md := z_md_118) rfl rfl]
  exact (y_ic rfl (y_bIc fun v1 m1 => (y_sh (L' := [some (y_bo 2 0 a0), some (y_bo 0 0 a1), none, none, some (y_bi x4), some (y_bi x5), some (y_bi x6), some (y_bi x7), some (y_bl x8), none, some (y_bi x10), some (y_bi x11)]) (S' := [y_bi v1]) rfl rfl (y_ic rfl (y_bIc fun v2 m2 => (y_sh (L' := [some (y_bo 2 0 a0), some (y_bo 0 0 a1), none, none, some (y_bi x4), some (y_bi x5), some (y_bi x6), some (y_bi x7), some (y_bl x8), none, some (y_bi x10), some (y_bi x11)]) (S' := [y_bi v2]) rfl rfl (y_ic rfl (y_bLc fun v3 m3 => (y_sh (L' := [some (y_bo 2 0 a0), some (y_bo 0 0 a1), none, none, some (y_bi x4), some (y_bi x5), some (y_bi x6), some (y_bi x7), some (y_bl x8), none, some (y_bi x10), some (y_bi x11)]) (S' := [y_bl v3, y_bl x8]) rfl rfl (y_bLc fun v4 m4 => (y_sh (L' := [some (y_bo 2 0 a0), some (y_bo 0 0 a1), none, none, some (y_bi x4), some (y_bi x5), some (y_bi x6), some (y_bi x7), some (y_bl x8), none, some (y_bi x10), some (y_bi x11)]) (S' := [y_bl v4]) rfl rfl rfl)))))))))))
set_option maxRecDepth 4000 in
theorem y_E_118_92 (d : Nat) (a0 : Nat) (a1 : Nat) (x4 : Int) (x5 : Int) (x6 : Int) (x7 : Int) (x8 : Int) (x10 : Int) (x11 : Int) (m : y_m) : y_R sp ph d 118 92 [some (y_bo 2 0 a0), some (y_bo 0 0 a1), none, none, some (y_bi x4), some (y_bi x5), some (y_bi x6), some (y_bi x7), some (y_bl x8), none, some (y_bi x10), some (y_bi x11)] [] m = y_R sp ph d 118 39 [some (y_bo 2 0 a0), some (y_bo 0 0 a1), none, none, some (y_bi x4), some (y_bi x5), some (y_bi x6), some (y_bi x7), some (y_bl x8), none, some (y_bi x10), some (y_bi (x11 + 1))] [] m := (y_R_eq (md := z_md_118) rfl rfl).trans rfl
set_option maxRecDepth 4000 in
theorem y_E_118_98 (d : Nat) (a0 : Nat) (a1 : Nat) (x4 : Int) (x5 : Int) (x6 : Int) (x7 : Int) (x8 : Int) (x10 : Int) (m : y_m) : y_R sp ph d 118 98 [some (y_bo 2 0 a0), some (y_bo 0 0 a1), none, none, some (y_bi x4), some (y_bi x5), some (y_bi x6), some (y_bi x7), some (y_bl x8), none, some (y_bi x10), none] [] m = y_R sp ph d 118 29 [some (y_bo 2 0 a0), some (y_bo 0 0 a1), none, none, some (y_bi x4), some (y_bi x5), some (y_bi x6), some (y_bi x7), some (y_bl x8), none, some (y_bi (x10 + 1)), none] [] m := (y_R_eq (md := z_md_118) rfl rfl).trans rfl
set_option maxRecDepth 4000 in
theorem y_E_118_104 (d : Nat) (x8 : Int) (m : y_m) : y_R sp ph d 118 104 [none, none, none, none, none, none, none, none, some (y_bl x8), none, none, none] [] m = y_rL x8 m := (y_R_eq (md := z_md_118) rfl rfl).trans rfl
set_option maxRecDepth 4000 in
theorem y_C_118 (d : Nat) (a0 : Nat) (a1 : Nat) (x2 : Int) (x3 : Int) (x4 : Int) (x5 : Int) (m : y_m) : y_V sp ph (d + 1) 118 [y_bo 2 0 a0, y_bo 0 0 a1, y_bi x2, y_bi x3, y_bi x4, y_bi x5] m = y_R sp ph d 118 0 [some (y_bo 2 0 a0), some (y_bo 0 0 a1), some (y_bi x2), some (y_bi x3), some (y_bi x4), some (y_bi x5), none, none, none, none, none, none] [] m := (y_V_eq (md := z_md_118) rfl rfl rfl).trans rfl
/-! LacedHoles$Finder.closed (LLacedHoles$Boot;I)J -/
set_option maxRecDepth 4000 in
theorem y_E_119_0 (d : Nat) (a0 : Nat) (a1 : Nat) (x2 : Int) (m : y_m) : y_R sp ph d 119 0 [some (y_bo 2 0 a0), some (y_bo 0 0 a1), some (y_bi x2), none, none, none, none, none, none, none] [] m = y_bI (y_V sp ph d 1 [y_bi x2] m) (fun v1 m1 => if 3 ≤ z_w v1 then y_R sp ph d 119 14 [some (y_bo 2 0 a0), some (y_bo 0 0 a1), some (y_bi x2), some (y_bl 9223372036854775807), none, none, none, none, none, none] [] m1 else y_rL 9223372036854775807 m1) (fun e m1 => y_px e m1) := by
  rw [y_R_eq (md := z_md_119) rfl rfl]
  exact (y_bIc fun v1 m1 => (y_sh (L' := [some (y_bo 2 0 a0), some (y_bo 0 0 a1), some (y_bi x2), some (y_bl 9223372036854775807), none, none, none, none, none, none]) (S' := [y_bi v1]) rfl rfl rfl))
set_option maxRecDepth 4000 in
theorem y_E_119_14 (d : Nat) (a0 : Nat) (a1 : Nat) (x2 : Int) (x3 : Int) (m : y_m) : y_R sp ph d 119 14 [some (y_bo 2 0 a0), some (y_bo 0 0 a1), some (y_bi x2), some (y_bl x3), none, none, none, none, none, none] [] m = y_bI (y_V sp ph d 0 [y_bi x2] m) (fun v1 m1 => y_R sp ph d 119 26 [some (y_bo 2 0 a0), some (y_bo 0 0 a1), some (y_bi x2), some (y_bl x3), none, some (y_bi v1), some (y_bi (v1 + 1)), none, none, none] [] m1) (fun e m1 => y_px e m1) := by
  rw [y_R_eq (md := z_md_119) rfl rfl]
  exact (y_bIc fun v1 m1 => (y_sh (L' := [some (y_bo 2 0 a0), some (y_bo 0 0 a1), some (y_bi x2), some (y_bl x3), none, none, none, none, none, none]) (S' := [y_bi v1]) rfl rfl rfl))
set_option maxRecDepth 4000 in
theorem y_E_119_26 (d : Nat) (a0 : Nat) (a1 : Nat) (x2 : Int) (x3 : Int) (x5 : Int) (x6 : Int) (m : y_m) : y_R sp ph d 119 26 [some (y_bo 2 0 a0), some (y_bo 0 0 a1), some (y_bi x2), some (y_bl x3), none, some (y_bi x5), some (y_bi x6), none, none, none] [] m = if 12 ≤ z_w x6 then y_R sp ph d 119 97 [none, none, none, some (y_bl x3), none, none, none, none, none, none] [] m else if z_w (z_iand (z_ishr x2 x6) 1) = 0 then y_R sp ph d 119 91 [some (y_bo 2 0 a0), some (y_bo 0 0 a1), some (y_bi x2), some (y_bl x3), none, some (y_bi x5), some (y_bi x6), none, none, none] [] m else y_bI (y_V sp ph d 113 [y_bo 2 0 a0, y_bi x5, y_bi x6] m) (fun v1 m1 => y_bL (y_V sp ph d 118 [y_bo 2 0 a0, y_bo 0 0 a1, y_bi x2, y_bi x6, y_bi v1, y_bi v1] m1) (fun v2 m2 => if z_w (z_lcmp v2 9223372036854775807) = 0 then y_R sp ph d 119 91 [some (y_bo 2 0 a0), some (y_bo 0 0 a1), some (y_bi x2), some (y_bl x3), none, some (y_bi x5), some (y_bi x6), none, none, none] [] m2 else y_bL (y_V sp ph d 112 [y_bo 2 0 a0, y_bi x5, y_bi x6] m2) (fun v3 m3 => y_bL (y_V sp ph d 6 [y_bl x3, y_bl (v2 + v3)] m3) (fun v4 m4 => y_R sp ph d 119 91 [some (y_bo 2 0 a0), some (y_bo 0 0 a1), some (y_bi x2), some (y_bl v4), none, some (y_bi x5), some (y_bi x6), none, none, none] [] m4) (fun e m1 => y_px e m1)) (fun e m1 => y_px e m1)) (fun e m1 => y_px e m1)) (fun e m1 => y_px e m1) := by
  rw [y_R_eq (md := z_md_119) rfl rfl]
  exact (y_ic rfl (y_ic rfl (y_bIc fun v1 m1 => (y_sh (L' := [some (y_bo 2 0 a0), some (y_bo 0 0 a1), some (y_bi x2), some (y_bl x3), none, some (y_bi x5), some (y_bi x6), none, none, none]) (S' := [y_bi v1]) rfl rfl (y_bLc fun v2 m2 => (y_sh (L' := [some (y_bo 2 0 a0), some (y_bo 0 0 a1), some (y_bi x2), some (y_bl x3), none, some (y_bi x5), some (y_bi x6), some (y_bi v1), none, none]) (S' := [y_bl v2]) rfl rfl (y_ic rfl (y_bLc fun v3 m3 => (y_sh (L' := [some (y_bo 2 0 a0), some (y_bo 0 0 a1), some (y_bi x2), some (y_bl x3), none, some (y_bi x5), some (y_bi x6), some (y_bi v1), some (y_bl v2), none]) (S' := [y_bl v3, y_bl v2, y_bl x3]) rfl rfl (y_bLc fun v4 m4 => (y_sh (L' := [some (y_bo 2 0 a0), some (y_bo 0 0 a1), some (y_bi x2), some (y_bl x3), none, some (y_bi x5), some (y_bi x6), some (y_bi v1), some (y_bl v2), none]) (S' := [y_bl v4]) rfl rfl rfl)))))))))))
set_option maxRecDepth 4000 in
theorem y_E_119_91 (d : Nat) (a0 : Nat) (a1 : Nat) (x2 : Int) (x3 : Int) (x5 : Int) (x6 : Int) (m : y_m) : y_R sp ph d 119 91 [some (y_bo 2 0 a0), some (y_bo 0 0 a1), some (y_bi x2), some (y_bl x3), none, some (y_bi x5), some (y_bi x6), none, none, none] [] m = y_R sp ph d 119 26 [some (y_bo 2 0 a0), some (y_bo 0 0 a1), some (y_bi x2), some (y_bl x3), none, some (y_bi x5), some (y_bi (x6 + 1)), none, none, none] [] m := (y_R_eq (md := z_md_119) rfl rfl).trans rfl
set_option maxRecDepth 4000 in
theorem y_E_119_97 (d : Nat) (x3 : Int) (m : y_m) : y_R sp ph d 119 97 [none, none, none, some (y_bl x3), none, none, none, none, none, none] [] m = y_rL x3 m := (y_R_eq (md := z_md_119) rfl rfl).trans rfl
set_option maxRecDepth 4000 in
theorem y_C_119 (d : Nat) (a0 : Nat) (a1 : Nat) (x2 : Int) (m : y_m) : y_V sp ph (d + 1) 119 [y_bo 2 0 a0, y_bo 0 0 a1, y_bi x2] m = y_R sp ph d 119 0 [some (y_bo 2 0 a0), some (y_bo 0 0 a1), some (y_bi x2), none, none, none, none, none, none, none] [] m := (y_V_eq (md := z_md_119) rfl rfl rfl).trans rfl
/-! LacedHoles$Finder.trace (LLacedHoles$Boot;ILLacedHoles$Way;)Z -/
set_option maxRecDepth 4000 in
theorem y_E_120_0 (d : Nat) (a0 : Nat) (a1 : Nat) (x2 : Int) (a3 : Nat) (m : y_m) : y_R sp ph d 120 0 [some (y_bo 2 0 a0), some (y_bo 0 0 a1), some (y_bi x2), some (y_bo 8 0 a3), none, none, none, none, none, none, none, none, none, none] [] m = y_bL (y_V sp ph d 119 [y_bo 2 0 a0, y_bo 0 0 a1, y_bi x2] m) (fun v1 m1 => if ¬ z_w (z_lcmp v1 9223372036854775807) = 0 then y_R sp ph d 120 19 [some (y_bo 2 0 a0), some (y_bo 0 0 a1), some (y_bi x2), some (y_bo 8 0 a3), some (y_bl v1), none, none, none, none, none, none, none, none, none] [] m1 else y_rI 0 m1) (fun e m1 => y_px e m1) := by
  rw [y_R_eq (md := z_md_120) rfl rfl]
  exact (y_bLc fun v1 m1 => (y_sh (L' := [some (y_bo 2 0 a0), some (y_bo 0 0 a1), some (y_bi x2), some (y_bo 8 0 a3), none, none, none, none, none, none, none, none, none, none]) (S' := [y_bl v1]) rfl rfl rfl))
set_option maxRecDepth 4000 in
theorem y_E_120_19 (d : Nat) (a0 : Nat) (a1 : Nat) (x2 : Int) (a3 : Nat) (x4 : Int) (m : y_m) : y_R sp ph d 120 19 [some (y_bo 2 0 a0), some (y_bo 0 0 a1), some (y_bi x2), some (y_bo 8 0 a3), some (y_bl x4), none, none, none, none, none, none, none, none, none] [] m = y_bV (y_V sp ph d 62 [y_bo 8 0 a3] m) (fun m1 => y_bI (y_V sp ph d 0 [y_bi x2] m1) (fun v2 m2 => y_bV (y_V sp ph d 63 [y_bo 8 0 a3, y_bi v2] m2) (fun m3 => y_R sp ph d 120 47 [some (y_bo 2 0 a0), some (y_bo 0 0 a1), none, some (y_bo 8 0 a3), none, none, some (y_bi x2), some (y_bi (-1)), some (y_bi (-1)), some (y_bl x4), none, some (y_bi 1), none, none] [] m3) (fun e m1 => y_px e m1)) (fun e m1 => y_px e m1)) (fun e m1 => y_px e m1) := by
  rw [y_R_eq (md := z_md_120) rfl rfl]
  exact (y_bVc fun m1 => (y_sh (L' := [some (y_bo 2 0 a0), some (y_bo 0 0 a1), some (y_bi x2), some (y_bo 8 0 a3), some (y_bl x4), none, none, none, none, none, none, none, none, none]) (S' := []) rfl rfl (y_bIc fun v2 m2 => (y_sh (L' := [some (y_bo 2 0 a0), some (y_bo 0 0 a1), some (y_bi x2), some (y_bo 8 0 a3), some (y_bl x4), none, none, none, none, none, none, none, none, none]) (S' := [y_bi v2, y_bo 8 0 a3]) rfl rfl (y_bVc fun m3 => (y_sh (L' := [some (y_bo 2 0 a0), some (y_bo 0 0 a1), some (y_bi x2), some (y_bo 8 0 a3), some (y_bl x4), none, none, none, none, none, none, none, none, none]) (S' := []) rfl rfl rfl))))))
set_option maxRecDepth 4000 in
theorem y_E_120_47 (d : Nat) (a0 : Nat) (a1 : Nat) (a3 : Nat) (x6 : Int) (x7 : Int) (x8 : Int) (x9 : Int) (x11 : Int) (m : y_m) : y_R sp ph d 120 47 [some (y_bo 2 0 a0), some (y_bo 0 0 a1), none, some (y_bo 8 0 a3), none, none, some (y_bi x6), some (y_bi x7), some (y_bi x8), some (y_bl x9), none, some (y_bi x11), none, none] [] m = if 12 ≤ z_w x11 then y_R sp ph d 120 158 [none, none, none, none, none, none, none, none, none, none, none, none, none, none] [] m else y_bI (y_V sp ph d 1 [y_bi x6] m) (fun v1 m1 => if z_w v1 ≤ 1 then y_R sp ph d 120 158 [none, none, none, none, none, none, none, none, none, none, none, none, none, none] [] m1 else y_bI (y_V sp ph d 65 [y_bo 8 0 a3, y_bi (x11 - 1)] m1) (fun v2 m2 => y_bI (y_V sp ph d 121 [y_bo 2 0 a0, y_bo 0 0 a1, y_bi x6, y_bo 8 0 a3, y_bi x7, y_bi x8, y_bl x9] m2) (fun v3 m3 => if ¬ z_w v3 = (-1) then y_R sp ph d 120 97 [some (y_bo 2 0 a0), some (y_bo 0 0 a1), none, some (y_bo 8 0 a3), none, none, some (y_bi x6), none, some (y_bi x8), some (y_bl x9), none, some (y_bi x11), some (y_bi v2), some (y_bi v3)] [] m3 else y_rI 0 m3) (fun e m1 => y_px e m1)) (fun e m1 => y_px e m1)) (fun e m1 => y_px e m1) := by
  rw [y_R_eq (md := z_md_120) rfl rfl]
  exact (y_ic rfl (y_bIc fun v1 m1 => (y_sh (L' := [some (y_bo 2 0 a0), some (y_bo 0 0 a1), none, some (y_bo 8 0 a3), none, none, some (y_bi x6), some (y_bi x7), some (y_bi x8), some (y_bl x9), none, some (y_bi x11), none, none]) (S' := [y_bi v1]) rfl rfl (y_ic rfl (y_bIc fun v2 m2 => (y_sh (L' := [some (y_bo 2 0 a0), some (y_bo 0 0 a1), none, some (y_bo 8 0 a3), none, none, some (y_bi x6), some (y_bi x7), some (y_bi x8), some (y_bl x9), none, some (y_bi x11), none, none]) (S' := [y_bi v2]) rfl rfl (y_bIc fun v3 m3 => (y_sh (L' := [some (y_bo 2 0 a0), some (y_bo 0 0 a1), none, some (y_bo 8 0 a3), none, none, some (y_bi x6), some (y_bi x7), some (y_bi x8), some (y_bl x9), none, some (y_bi x11), some (y_bi v2), none]) (S' := [y_bi v3]) rfl rfl rfl))))))))
set_option maxRecDepth 4000 in
theorem y_E_120_97 (d : Nat) (a0 : Nat) (a1 : Nat) (a3 : Nat) (x6 : Int) (x8 : Int) (x9 : Int) (x11 : Int) (x12 : Int) (x13 : Int) (m : y_m) : y_R sp ph d 120 97 [some (y_bo 2 0 a0), some (y_bo 0 0 a1), none, some (y_bo 8 0 a3), none, none, some (y_bi x6), none, some (y_bi x8), some (y_bl x9), none, some (y_bi x11), some (y_bi x12), some (y_bi x13)] [] m = y_bI (y_V sp ph d 113 [y_bo 2 0 a0, y_bi x12, y_bi x13] m) (fun v1 m1 => if ¬ z_w x8 = (-1) then y_R sp ph d 120 118 [some (y_bo 2 0 a0), some (y_bo 0 0 a1), none, some (y_bo 8 0 a3), none, none, some (y_bi x6), some (y_bi v1), some (y_bi x8), some (y_bl x9), none, some (y_bi x11), some (y_bi x12), some (y_bi x13)] [] m1 else y_R sp ph d 120 120 [some (y_bo 2 0 a0), some (y_bo 0 0 a1), none, some (y_bo 8 0 a3), none, none, some (y_bi x6), some (y_bi v1), none, some (y_bl x9), none, some (y_bi x11), some (y_bi x12), some (y_bi x13)] [y_bi v1] m1) (fun e m1 => y_px e m1) := by
  rw [y_R_eq (md := z_md_120) rfl rfl]
  exact (y_bIc fun v1 m1 => (y_sh (L' := [some (y_bo 2 0 a0), some (y_bo 0 0 a1), none, some (y_bo 8 0 a3), none, none, some (y_bi x6), none, some (y_bi x8), some (y_bl x9), none, some (y_bi x11), some (y_bi x12), some (y_bi x13)]) (S' := [y_bi v1]) rfl rfl rfl))
set_option maxRecDepth 4000 in
theorem y_E_120_118 (d : Nat) (a0 : Nat) (a1 : Nat) (a3 : Nat) (x6 : Int) (x7 : Int) (x8 : Int) (x9 : Int) (x11 : Int) (x12 : Int) (x13 : Int) (m : y_m) : y_R sp ph d 120 118 [some (y_bo 2 0 a0), some (y_bo 0 0 a1), none, some (y_bo 8 0 a3), none, none, some (y_bi x6), some (y_bi x7), some (y_bi x8), some (y_bl x9), none, some (y_bi x11), some (y_bi x12), some (y_bi x13)] [] m = y_R sp ph d 120 120 [some (y_bo 2 0 a0), some (y_bo 0 0 a1), none, some (y_bo 8 0 a3), none, none, some (y_bi x6), some (y_bi x7), none, some (y_bl x9), none, some (y_bi x11), some (y_bi x12), some (y_bi x13)] [y_bi x8] m := (y_R_eq (md := z_md_120) rfl rfl).trans rfl
set_option maxRecDepth 4000 in
theorem y_E_120_120 (d : Nat) (a0 : Nat) (a1 : Nat) (a3 : Nat) (x6 : Int) (x7 : Int) (x9 : Int) (x11 : Int) (x12 : Int) (x13 : Int) (xs0 : Int) (m : y_m) : y_R sp ph d 120 120 [some (y_bo 2 0 a0), some (y_bo 0 0 a1), none, some (y_bo 8 0 a3), none, none, some (y_bi x6), some (y_bi x7), none, some (y_bl x9), none, some (y_bi x11), some (y_bi x12), some (y_bi x13)] [y_bi xs0] m = y_bL (y_V sp ph d 112 [y_bo 2 0 a0, y_bi x12, y_bi x13] m) (fun v1 m1 => y_bV (y_V sp ph d 63 [y_bo 8 0 a3, y_bi x13] m1) (fun m2 => y_R sp ph d 120 47 [some (y_bo 2 0 a0), some (y_bo 0 0 a1), none, some (y_bo 8 0 a3), none, none, some (y_bi (z_iand x6 (z_ixor (z_ishl 1 x13) (-1)))), some (y_bi x7), some (y_bi xs0), some (y_bl (x9 - v1)), none, some (y_bi (x11 + 1)), none, none] [] m2) (fun e m1 => y_px e m1)) (fun e m1 => y_px e m1) := by
  rw [y_R_eq (md := z_md_120) rfl rfl]
  exact (y_bLc fun v1 m1 => (y_sh (L' := [some (y_bo 2 0 a0), some (y_bo 0 0 a1), none, some (y_bo 8 0 a3), none, none, some (y_bi x6), some (y_bi x7), some (y_bi xs0), some (y_bl x9), none, some (y_bi x11), some (y_bi x12), some (y_bi x13)]) (S' := [y_bl v1, y_bl x9]) rfl rfl (y_bVc fun m2 => (y_sh (L' := [some (y_bo 2 0 a0), some (y_bo 0 0 a1), none, some (y_bo 8 0 a3), none, none, some (y_bi (z_iand x6 (z_ixor (z_ishl 1 x13) (-1)))), some (y_bi x7), some (y_bi xs0), some (y_bl (x9 - v1)), none, some (y_bi x11), some (y_bi x12), some (y_bi x13)]) (S' := []) rfl rfl rfl))))
set_option maxRecDepth 4000 in
theorem y_E_120_158 (d : Nat) (m : y_m) : y_R sp ph d 120 158 [none, none, none, none, none, none, none, none, none, none, none, none, none, none] [] m = y_rI 1 m := (y_R_eq (md := z_md_120) rfl rfl).trans rfl
set_option maxRecDepth 4000 in
theorem y_C_120 (d : Nat) (a0 : Nat) (a1 : Nat) (x2 : Int) (a3 : Nat) (m : y_m) : y_V sp ph (d + 1) 120 [y_bo 2 0 a0, y_bo 0 0 a1, y_bi x2, y_bo 8 0 a3] m = y_R sp ph d 120 0 [some (y_bo 2 0 a0), some (y_bo 0 0 a1), some (y_bi x2), some (y_bo 8 0 a3), none, none, none, none, none, none, none, none, none, none] [] m := (y_V_eq (md := z_md_120) rfl rfl rfl).trans rfl
/-! LacedHoles$Finder.nextHole (LLacedHoles$Boot;ILLacedHoles$Way;IIJ)I -/
set_option maxRecDepth 4000 in
theorem y_E_121_0 (d : Nat) (a0 : Nat) (a1 : Nat) (x2 : Int) (a3 : Nat) (x4 : Int) (x5 : Int) (x6 : Int) (m : y_m) : y_R sp ph d 121 0 [some (y_bo 2 0 a0), some (y_bo 0 0 a1), some (y_bi x2), some (y_bo 8 0 a3), some (y_bi x4), some (y_bi x5), some (y_bl x6), none, none, none, none, none, none, none, none] [] m = y_bI (y_V sp ph d 65 [y_bo 8 0 a3, y_bi 0] m) (fun v1 m1 => y_bI (y_V sp ph d 65 [y_bo 8 0 a3, y_bi ((y_mI m1 a3 1) - 1)] m1) (fun v2 m2 => y_R sp ph d 121 25 [some (y_bo 2 0 a0), some (y_bo 0 0 a1), some (y_bi x2), none, some (y_bi x4), some (y_bi x5), some (y_bl x6), none, none, some (y_bi v2), some (y_bi (v1 + 1)), none, none, none, none] [] m2) (fun e m1 => y_px e m1)) (fun e m1 => y_px e m1) := by
  rw [y_R_eq (md := z_md_121) rfl rfl]
  exact (y_bIc fun v1 m1 => (y_sh (L' := [some (y_bo 2 0 a0), some (y_bo 0 0 a1), some (y_bi x2), some (y_bo 8 0 a3), some (y_bi x4), some (y_bi x5), some (y_bl x6), none, none, none, none, none, none, none, none]) (S' := [y_bi v1]) rfl rfl (y_bIc fun v2 m2 => (y_sh (L' := [some (y_bo 2 0 a0), some (y_bo 0 0 a1), some (y_bi x2), some (y_bo 8 0 a3), some (y_bi x4), some (y_bi x5), some (y_bl x6), none, some (y_bi v1), none, none, none, none, none, none]) (S' := [y_bi v2]) rfl rfl rfl))))
set_option maxRecDepth 4000 in
theorem y_E_121_25 (d : Nat) (a0 : Nat) (a1 : Nat) (x2 : Int) (x4 : Int) (x5 : Int) (x6 : Int) (x9 : Int) (x10 : Int) (m : y_m) : y_R sp ph d 121 25 [some (y_bo 2 0 a0), some (y_bo 0 0 a1), some (y_bi x2), none, some (y_bi x4), some (y_bi x5), some (y_bl x6), none, none, some (y_bi x9), some (y_bi x10), none, none, none, none] [] m = if 12 ≤ z_w x10 then y_R sp ph d 121 142 [none, none, none, none, none, none, none, none, none, none, none, none, none, none, none] [] m else y_bI (y_V sp ph d 113 [y_bo 2 0 a0, y_bi x9, y_bi x10] m) (fun v1 m1 => if z_w (z_iand (z_ishr x2 x10) 1) = 0 then y_R sp ph d 121 72 [some (y_bo 2 0 a0), some (y_bo 0 0 a1), some (y_bi x2), none, some (y_bi x4), some (y_bi x5), some (y_bl x6), none, none, some (y_bi x9), some (y_bi x10), some (y_bi v1), none, none, none] [] m1 else if z_w x4 = (-1) then y_R sp ph d 121 68 [some (y_bo 2 0 a0), some (y_bo 0 0 a1), some (y_bi x2), none, some (y_bi x4), some (y_bi x5), some (y_bl x6), none, none, some (y_bi x9), some (y_bi x10), some (y_bi v1), none, none, none] [] m1 else y_bI (y_V sp ph d 46 [y_bo 0 0 a1, y_bi x4, y_bi v1] m1) (fun v2 m2 => if z_w v2 = 0 then y_R sp ph d 121 72 [some (y_bo 2 0 a0), some (y_bo 0 0 a1), some (y_bi x2), none, some (y_bi x4), some (y_bi x5), some (y_bl x6), none, none, some (y_bi x9), some (y_bi x10), some (y_bi v1), none, none, none] [] m2 else y_R sp ph d 121 68 [some (y_bo 2 0 a0), some (y_bo 0 0 a1), some (y_bi x2), none, some (y_bi x4), some (y_bi x5), some (y_bl x6), none, none, some (y_bi x9), some (y_bi x10), some (y_bi v1), none, none, none] [] m2) (fun e m1 => y_px e m1)) (fun e m1 => y_px e m1) := by
  rw [y_R_eq (md := z_md_121) rfl rfl]
  exact (y_ic rfl (y_bIc fun v1 m1 => (y_sh (L' := [some (y_bo 2 0 a0), some (y_bo 0 0 a1), some (y_bi x2), none, some (y_bi x4), some (y_bi x5), some (y_bl x6), none, none, some (y_bi x9), some (y_bi x10), none, none, none, none]) (S' := [y_bi v1]) rfl rfl (y_ic rfl (y_ic rfl (y_bIc fun v2 m2 => (y_sh (L' := [some (y_bo 2 0 a0), some (y_bo 0 0 a1), some (y_bi x2), none, some (y_bi x4), some (y_bi x5), some (y_bl x6), none, none, some (y_bi x9), some (y_bi x10), some (y_bi v1), none, none, none]) (S' := [y_bi v2]) rfl rfl rfl)))))))
set_option maxRecDepth 4000 in
theorem y_E_121_68 (d : Nat) (a0 : Nat) (a1 : Nat) (x2 : Int) (x4 : Int) (x5 : Int) (x6 : Int) (x9 : Int) (x10 : Int) (x11 : Int) (m : y_m) : y_R sp ph d 121 68 [some (y_bo 2 0 a0), some (y_bo 0 0 a1), some (y_bi x2), none, some (y_bi x4), some (y_bi x5), some (y_bl x6), none, none, some (y_bi x9), some (y_bi x10), some (y_bi x11), none, none, none] [] m = y_R sp ph d 121 73 [some (y_bo 2 0 a0), some (y_bo 0 0 a1), some (y_bi x2), none, some (y_bi x4), some (y_bi x5), some (y_bl x6), none, none, some (y_bi x9), some (y_bi x10), some (y_bi x11), none, none, none] [y_bi 1] m := (y_R_eq (md := z_md_121) rfl rfl).trans rfl
set_option maxRecDepth 4000 in
theorem y_E_121_72 (d : Nat) (a0 : Nat) (a1 : Nat) (x2 : Int) (x4 : Int) (x5 : Int) (x6 : Int) (x9 : Int) (x10 : Int) (x11 : Int) (m : y_m) : y_R sp ph d 121 72 [some (y_bo 2 0 a0), some (y_bo 0 0 a1), some (y_bi x2), none, some (y_bi x4), some (y_bi x5), some (y_bl x6), none, none, some (y_bi x9), some (y_bi x10), some (y_bi x11), none, none, none] [] m = y_R sp ph d 121 73 [some (y_bo 2 0 a0), some (y_bo 0 0 a1), some (y_bi x2), none, some (y_bi x4), some (y_bi x5), some (y_bl x6), none, none, some (y_bi x9), some (y_bi x10), some (y_bi x11), none, none, none] [y_bi 0] m := (y_R_eq (md := z_md_121) rfl rfl).trans rfl
set_option maxRecDepth 4000 in
theorem y_E_121_73 (d : Nat) (a0 : Nat) (a1 : Nat) (x2 : Int) (x4 : Int) (x5 : Int) (x6 : Int) (x9 : Int) (x10 : Int) (x11 : Int) (xs0 : Int) (m : y_m) : y_R sp ph d 121 73 [some (y_bo 2 0 a0), some (y_bo 0 0 a1), some (y_bi x2), none, some (y_bi x4), some (y_bi x5), some (y_bl x6), none, none, some (y_bi x9), some (y_bi x10), some (y_bi x11), none, none, none] [y_bi xs0] m = if z_w xs0 = 0 then y_R sp ph d 121 136 [some (y_bo 2 0 a0), some (y_bo 0 0 a1), some (y_bi x2), none, some (y_bi x4), some (y_bi x5), some (y_bl x6), none, none, some (y_bi x9), some (y_bi x10), none, none, none, none] [] m else if ¬ z_w x5 = (-1) then y_R sp ph d 121 98 [some (y_bo 2 0 a0), some (y_bo 0 0 a1), some (y_bi x2), none, some (y_bi x4), some (y_bi x5), some (y_bl x6), none, none, some (y_bi x9), some (y_bi x10), none, none, none, none] [y_bi x11, y_bi x10, y_bi x2, y_bo 0 0 a1, y_bo 2 0 a0] m else y_R sp ph d 121 100 [some (y_bo 2 0 a0), some (y_bo 0 0 a1), some (y_bi x2), none, some (y_bi x4), some (y_bi x5), some (y_bl x6), none, none, some (y_bi x9), some (y_bi x10), none, none, none, none] [y_bi x11, y_bi x11, y_bi x10, y_bi x2, y_bo 0 0 a1, y_bo 2 0 a0] m := (y_R_eq (md := z_md_121) rfl rfl).trans rfl
set_option maxRecDepth 4000 in
theorem y_E_121_98 (d : Nat) (a0 : Nat) (a1 : Nat) (x2 : Int) (x4 : Int) (x5 : Int) (x6 : Int) (x9 : Int) (x10 : Int) (xs0 : Int) (xs1 : Int) (xs2 : Int) (as3 : Nat) (as4 : Nat) (m : y_m) : y_R sp ph d 121 98 [some (y_bo 2 0 a0), some (y_bo 0 0 a1), some (y_bi x2), none, some (y_bi x4), some (y_bi x5), some (y_bl x6), none, none, some (y_bi x9), some (y_bi x10), none, none, none, none] [y_bi xs0, y_bi xs1, y_bi xs2, y_bo 0 0 as3, y_bo 2 0 as4] m = y_R sp ph d 121 100 [some (y_bo 2 0 a0), some (y_bo 0 0 a1), some (y_bi x2), none, some (y_bi x4), some (y_bi x5), some (y_bl x6), none, none, some (y_bi x9), some (y_bi x10), none, none, none, none] [y_bi x5, y_bi xs0, y_bi xs1, y_bi xs2, y_bo 0 0 as3, y_bo 2 0 as4] m := (y_R_eq (md := z_md_121) rfl rfl).trans rfl
set_option maxRecDepth 4000 in
theorem y_E_121_100 (d : Nat) (a0 : Nat) (a1 : Nat) (x2 : Int) (x4 : Int) (x5 : Int) (x6 : Int) (x9 : Int) (x10 : Int) (xs0 : Int) (xs1 : Int) (xs2 : Int) (xs3 : Int) (as4 : Nat) (as5 : Nat) (m : y_m) : y_R sp ph d 121 100 [some (y_bo 2 0 a0), some (y_bo 0 0 a1), some (y_bi x2), none, some (y_bi x4), some (y_bi x5), some (y_bl x6), none, none, some (y_bi x9), some (y_bi x10), none, none, none, none] [y_bi xs0, y_bi xs1, y_bi xs2, y_bi xs3, y_bo 0 0 as4, y_bo 2 0 as5] m = y_bL (y_V sp ph d 118 [y_bo 2 0 as5, y_bo 0 0 as4, y_bi xs3, y_bi xs2, y_bi xs1, y_bi xs0] m) (fun v1 m1 => if z_w (z_lcmp v1 9223372036854775807) = 0 then y_R sp ph d 121 136 [some (y_bo 2 0 a0), some (y_bo 0 0 a1), some (y_bi x2), none, some (y_bi x4), some (y_bi x5), some (y_bl x6), none, none, some (y_bi x9), some (y_bi x10), none, none, none, none] [] m1 else y_bL (y_V sp ph d 112 [y_bo 2 0 a0, y_bi x9, y_bi x10] m1) (fun v2 m2 => y_bI (y_V sp ph d 56 [y_bl x6, y_bl (v1 + v2)] m2) (fun v3 m3 => if ¬ z_w v3 = 0 then y_R sp ph d 121 136 [some (y_bo 2 0 a0), some (y_bo 0 0 a1), some (y_bi x2), none, some (y_bi x4), some (y_bi x5), some (y_bl x6), none, none, some (y_bi x9), some (y_bi x10), none, none, none, none] [] m3 else y_rI x10 m3) (fun e m1 => y_px e m1)) (fun e m1 => y_px e m1)) (fun e m1 => y_px e m1) := by
  rw [y_R_eq (md := z_md_121) rfl rfl]
  exact (y_bLc fun v1 m1 => (y_sh (L' := [some (y_bo 2 0 a0), some (y_bo 0 0 a1), some (y_bi x2), none, some (y_bi x4), some (y_bi x5), some (y_bl x6), none, none, some (y_bi x9), some (y_bi x10), none, none, none, none]) (S' := [y_bl v1]) rfl rfl (y_ic rfl (y_bLc fun v2 m2 => (y_sh (L' := [some (y_bo 2 0 a0), some (y_bo 0 0 a1), some (y_bi x2), none, some (y_bi x4), some (y_bi x5), some (y_bl x6), none, none, some (y_bi x9), some (y_bi x10), none, none, some (y_bl v1), none]) (S' := [y_bl v2, y_bl v1, y_bl x6]) rfl rfl (y_bIc fun v3 m3 => (y_sh (L' := [some (y_bo 2 0 a0), some (y_bo 0 0 a1), some (y_bi x2), none, some (y_bi x4), some (y_bi x5), some (y_bl x6), none, none, some (y_bi x9), some (y_bi x10), none, none, some (y_bl v1), none]) (S' := [y_bi v3]) rfl rfl rfl)))))))
set_option maxRecDepth 4000 in
theorem y_E_121_136 (d : Nat) (a0 : Nat) (a1 : Nat) (x2 : Int) (x4 : Int) (x5 : Int) (x6 : Int) (x9 : Int) (x10 : Int) (m : y_m) : y_R sp ph d 121 136 [some (y_bo 2 0 a0), some (y_bo 0 0 a1), some (y_bi x2), none, some (y_bi x4), some (y_bi x5), some (y_bl x6), none, none, some (y_bi x9), some (y_bi x10), none, none, none, none] [] m = y_R sp ph d 121 25 [some (y_bo 2 0 a0), some (y_bo 0 0 a1), some (y_bi x2), none, some (y_bi x4), some (y_bi x5), some (y_bl x6), none, none, some (y_bi x9), some (y_bi (x10 + 1)), none, none, none, none] [] m := (y_R_eq (md := z_md_121) rfl rfl).trans rfl
set_option maxRecDepth 4000 in
theorem y_E_121_142 (d : Nat) (m : y_m) : y_R sp ph d 121 142 [none, none, none, none, none, none, none, none, none, none, none, none, none, none, none] [] m = y_rI (-1) m := (y_R_eq (md := z_md_121) rfl rfl).trans rfl
set_option maxRecDepth 4000 in
theorem y_C_121 (d : Nat) (a0 : Nat) (a1 : Nat) (x2 : Int) (a3 : Nat) (x4 : Int) (x5 : Int) (x6 : Int) (m : y_m) : y_V sp ph (d + 1) 121 [y_bo 2 0 a0, y_bo 0 0 a1, y_bi x2, y_bo 8 0 a3, y_bi x4, y_bi x5, y_bl x6] m = y_R sp ph d 121 0 [some (y_bo 2 0 a0), some (y_bo 0 0 a1), some (y_bi x2), some (y_bo 8 0 a3), some (y_bi x4), some (y_bi x5), some (y_bl x6), none, none, none, none, none, none, none, none] [] m := (y_V_eq (md := z_md_121) rfl rfl rfl).trans rfl
/-! LacedHoles$Walk.unlikeRounds (LLacedHoles$Boot;)I -/
set_option maxRecDepth 4000 in
theorem y_E_123_0 (d : Nat) (a0 : Nat) (a1 : Nat) (m : y_m) : y_R sp ph d 123 0 [some (y_bo 7 0 a0), some (y_bo 0 0 a1)] [] m = y_bV (y_V sp ph d 79 [y_bo 3 0 16] m) (fun m1 => y_bI (y_V sp ph d 41 [y_bo 0 0 a1] (y_sI m1 a0 2 2)) (fun v2 m2 => y_bI (y_V sp ph d 126 [y_bo 7 0 a0, y_bi v2] m2) (fun v3 m3 => y_bV (y_V sp ph d 128 [y_bo 7 0 a0, y_bo 0 0 a1, y_bi 1, y_bi v3, y_bi (-1), y_bi 1] m3) (fun m4 => y_rI (z_idiv (y_mI m4 a0 4) 4) m4) (fun e m1 => y_px e m1)) (fun e m1 => y_px e m1)) (fun e m1 => y_px e m1)) (fun e m1 => y_px e m1) := by
  rw [y_R_eq (md := z_md_123) rfl rfl]
  exact (y_bVc fun m1 => (y_sh (L' := [some (y_bo 7 0 a0), some (y_bo 0 0 a1)]) (S' := []) rfl rfl (y_bIc fun v2 m2 => (y_sh (L' := [some (y_bo 7 0 a0), some (y_bo 0 0 a1)]) (S' := [y_bi v2, y_bo 7 0 a0, y_bi 1, y_bo 0 0 a1, y_bo 7 0 a0]) rfl rfl (y_bIc fun v3 m3 => (y_sh (L' := [some (y_bo 7 0 a0), some (y_bo 0 0 a1)]) (S' := [y_bi v3, y_bi 1, y_bo 0 0 a1, y_bo 7 0 a0]) rfl rfl (y_bVc fun m4 => (y_sh (L' := [some (y_bo 7 0 a0), some (y_bo 0 0 a1)]) (S' := []) rfl rfl rfl))))))))
set_option maxRecDepth 4000 in
theorem y_C_123 (d : Nat) (a0 : Nat) (a1 : Nat) (m : y_m) : y_V sp ph (d + 1) 123 [y_bo 7 0 a0, y_bo 0 0 a1] m = y_R sp ph d 123 0 [some (y_bo 7 0 a0), some (y_bo 0 0 a1)] [] m := (y_V_eq (md := z_md_123) rfl rfl rfl).trans rfl
/-! LacedHoles$Walk.roundsWithin (LLacedHoles$Boot;LLacedHoles$Picture;)I -/
set_option maxRecDepth 4000 in
theorem y_E_124_0 (d : Nat) (a0 : Nat) (a1 : Nat) (a2 : Nat) (m : y_m) : y_R sp ph d 124 0 [some (y_bo 7 0 a0), some (y_bo 0 0 a1), some (y_bo 3 0 a2)] [] m = if 3 ≤ z_w (2 * (y_mI m a2 1)) then y_R sp ph d 124 12 [some (y_bo 7 0 a0), some (y_bo 0 0 a1), some (y_bo 3 0 a2)] [] m else y_rI 0 m := (y_R_eq (md := z_md_124) rfl rfl).trans rfl
set_option maxRecDepth 4000 in
theorem y_E_124_12 (d : Nat) (a0 : Nat) (a1 : Nat) (a2 : Nat) (m : y_m) : y_R sp ph d 124 12 [some (y_bo 7 0 a0), some (y_bo 0 0 a1), some (y_bo 3 0 a2)] [] m = y_bV (y_V sp ph d 80 [y_bo 3 0 16, y_bo 3 0 a2] m) (fun m1 => y_bI (y_V sp ph d 126 [y_bo 7 0 a0, y_bi (y_mI (y_sI m1 a0 2 0) a2 2)] (y_sI m1 a0 2 0)) (fun v2 m2 => y_bV (y_V sp ph d 128 [y_bo 7 0 a0, y_bo 0 0 a1, y_bi 1, y_bi v2, y_bi (-1), y_bi 0] m2) (fun m3 => y_rI (y_mI m3 a0 3) m3) (fun e m1 => y_px e m1)) (fun e m1 => y_px e m1)) (fun e m1 => y_px e m1) := by
  rw [y_R_eq (md := z_md_124) rfl rfl]
  exact (y_bVc fun m1 => (y_sh (L' := [some (y_bo 7 0 a0), some (y_bo 0 0 a1), some (y_bo 3 0 a2)]) (S' := []) rfl rfl (y_bIc fun v2 m2 => (y_sh (L' := [some (y_bo 7 0 a0), some (y_bo 0 0 a1), some (y_bo 3 0 a2)]) (S' := [y_bi v2, y_bi 1, y_bo 0 0 a1, y_bo 7 0 a0]) rfl rfl (y_bVc fun m3 => (y_sh (L' := [some (y_bo 7 0 a0), some (y_bo 0 0 a1), some (y_bo 3 0 a2)]) (S' := []) rfl rfl rfl))))))
set_option maxRecDepth 4000 in
theorem y_C_124 (d : Nat) (a0 : Nat) (a1 : Nat) (a2 : Nat) (m : y_m) : y_V sp ph (d + 1) 124 [y_bo 7 0 a0, y_bo 0 0 a1, y_bo 3 0 a2] m = y_R sp ph d 124 0 [some (y_bo 7 0 a0), some (y_bo 0 0 a1), some (y_bo 3 0 a2)] [] m := (y_V_eq (md := z_md_124) rfl rfl rfl).trans rfl
/-! LacedHoles$Walk.firstWithin (LLacedHoles$Boot;LLacedHoles$Picture;LLacedHoles$Way;)Z -/
set_option maxRecDepth 4000 in
theorem y_E_125_0 (d : Nat) (a0 : Nat) (a1 : Nat) (a2 : Nat) (a3 : Nat) (m : y_m) : y_R sp ph d 125 0 [some (y_bo 7 0 a0), some (y_bo 0 0 a1), some (y_bo 3 0 a2), some (y_bo 8 0 a3)] [] m = if 3 ≤ z_w (2 * (y_mI m a2 1)) then y_R sp ph d 125 12 [some (y_bo 7 0 a0), some (y_bo 0 0 a1), some (y_bo 3 0 a2), some (y_bo 8 0 a3)] [] m else y_rI 0 m := (y_R_eq (md := z_md_125) rfl rfl).trans rfl
set_option maxRecDepth 4000 in
theorem y_E_125_12 (d : Nat) (a0 : Nat) (a1 : Nat) (a2 : Nat) (a3 : Nat) (m : y_m) : y_R sp ph d 125 12 [some (y_bo 7 0 a0), some (y_bo 0 0 a1), some (y_bo 3 0 a2), some (y_bo 8 0 a3)] [] m = y_bV (y_V sp ph d 80 [y_bo 3 0 16, y_bo 3 0 a2] m) (fun m1 => y_bI (y_V sp ph d 126 [y_bo 7 0 a0, y_bi (y_mI (y_sI m1 a0 2 1) a2 2)] (y_sI m1 a0 2 1)) (fun v2 m2 => y_bV (y_V sp ph d 128 [y_bo 7 0 a0, y_bo 0 0 a1, y_bi 1, y_bi v2, y_bi (-1), y_bi 1] m2) (fun m3 => if ¬ z_w (y_mI m3 a0 3) = 0 then y_R sp ph d 125 50 [some (y_bo 7 0 a0), none, none, some (y_bo 8 0 a3)] [] m3 else y_rI 0 m3) (fun e m1 => y_px e m1)) (fun e m1 => y_px e m1)) (fun e m1 => y_px e m1) := by
  rw [y_R_eq (md := z_md_125) rfl rfl]
  exact (y_bVc fun m1 => (y_sh (L' := [some (y_bo 7 0 a0), some (y_bo 0 0 a1), some (y_bo 3 0 a2), some (y_bo 8 0 a3)]) (S' := []) rfl rfl (y_bIc fun v2 m2 => (y_sh (L' := [some (y_bo 7 0 a0), some (y_bo 0 0 a1), some (y_bo 3 0 a2), some (y_bo 8 0 a3)]) (S' := [y_bi v2, y_bi 1, y_bo 0 0 a1, y_bo 7 0 a0]) rfl rfl (y_bVc fun m3 => (y_sh (L' := [some (y_bo 7 0 a0), some (y_bo 0 0 a1), some (y_bo 3 0 a2), some (y_bo 8 0 a3)]) (S' := []) rfl rfl rfl))))))
set_option maxRecDepth 4000 in
theorem y_E_125_50 (d : Nat) (a0 : Nat) (a3 : Nat) (m : y_m) : y_R sp ph d 125 50 [some (y_bo 7 0 a0), none, none, some (y_bo 8 0 a3)] [] m = y_bV (y_V sp ph d 64 [y_bo 8 0 a3, y_bo 8 0 14] m) (fun m1 => y_rI 1 m1) (fun e m1 => y_px e m1) := by
  rw [y_R_eq (md := z_md_125) rfl rfl]
  exact (y_bVc fun m1 => (y_sh (L' := [some (y_bo 7 0 a0), none, none, some (y_bo 8 0 a3)]) (S' := []) rfl rfl rfl))
set_option maxRecDepth 4000 in
theorem y_C_125 (d : Nat) (a0 : Nat) (a1 : Nat) (a2 : Nat) (a3 : Nat) (m : y_m) : y_V sp ph (d + 1) 125 [y_bo 7 0 a0, y_bo 0 0 a1, y_bo 3 0 a2, y_bo 8 0 a3] m = y_R sp ph d 125 0 [some (y_bo 7 0 a0), some (y_bo 0 0 a1), some (y_bo 3 0 a2), some (y_bo 8 0 a3)] [] m := (y_V_eq (md := z_md_125) rfl rfl rfl).trans rfl
/-! LacedHoles$Walk.begin (I)I -/
set_option maxRecDepth 4000 in
theorem y_E_126_0 (d : Nat) (a0 : Nat) (x1 : Int) (m : y_m) : y_R sp ph d 126 0 [some (y_bo 7 0 a0), some (y_bi x1)] [] m = y_bI (y_V sp ph d 1 [y_bi x1] (y_sI (y_sI m a0 3 0) a0 4 0)) (fun v1 m1 => y_bI (y_V sp ph d 0 [y_bi x1] (y_sI m1 14 1 v1)) (fun v2 m2 => y_bV (y_V sp ph d 66 [y_bo 8 0 14, y_bi 0, y_bi v2] m2) (fun m3 => y_rI (z_iand x1 (x1 - 1)) m3) (fun e m1 => y_px e m1)) (fun e m1 => y_px e m1)) (fun e m1 => y_px e m1) := by
  rw [y_R_eq (md := z_md_126) rfl rfl]
  exact (y_bIc fun v1 m1 => (y_sh (L' := [some (y_bo 7 0 a0), some (y_bi x1)]) (S' := [y_bi v1, y_bo 8 0 14]) rfl rfl (y_bIc fun v2 m2 => (y_sh (L' := [some (y_bo 7 0 a0), some (y_bi x1)]) (S' := [y_bi v2, y_bi 0, y_bo 8 0 14]) rfl rfl (y_bVc fun m3 => (y_sh (L' := [some (y_bo 7 0 a0), some (y_bi x1)]) (S' := []) rfl rfl rfl))))))
set_option maxRecDepth 4000 in
theorem y_C_126 (d : Nat) (a0 : Nat) (x1 : Int) (m : y_m) : y_V sp ph (d + 1) 126 [y_bo 7 0 a0, y_bi x1] m = y_R sp ph d 126 0 [some (y_bo 7 0 a0), some (y_bi x1)] [] m := (y_V_eq (md := z_md_126) rfl rfl rfl).trans rfl
/-! LacedHoles$Walk.isOver ()Z -/
set_option maxRecDepth 4000 in
theorem y_E_127_0 (d : Nat) (a0 : Nat) (m : y_m) : y_R sp ph d 127 0 [some (y_bo 7 0 a0)] [] m = if ¬ z_w (y_mI m a0 2) = 1 then y_R sp ph d 127 19 [none] [] m else if z_w (y_mI m a0 3) ≤ 0 then y_R sp ph d 127 19 [none] [] m else y_R sp ph d 127 20 [none] [y_bi 1] m := (y_R_eq (md := z_md_127) rfl rfl).trans rfl
set_option maxRecDepth 4000 in
theorem y_E_127_19 (d : Nat) (m : y_m) : y_R sp ph d 127 19 [none] [] m = y_R sp ph d 127 20 [none] [y_bi 0] m := (y_R_eq (md := z_md_127) rfl rfl).trans rfl
set_option maxRecDepth 4000 in
theorem y_E_127_20 (d : Nat) (xs0 : Int) (m : y_m) : y_R sp ph d 127 20 [none] [y_bi xs0] m = y_g (xs0 = 0 ∨ xs0 = 1) (y_rI xs0 m) := (y_R_eq (md := z_md_127) rfl rfl).trans rfl
set_option maxRecDepth 4000 in
theorem y_C_127 (d : Nat) (a0 : Nat) (m : y_m) : y_V sp ph (d + 1) 127 [y_bo 7 0 a0] m = y_R sp ph d 127 0 [some (y_bo 7 0 a0)] [] m := (y_V_eq (md := z_md_127) rfl rfl rfl).trans rfl
/-! LacedHoles$Walk.goOn (LLacedHoles$Boot;IIIZ)V -/
set_option maxRecDepth 4000 in
theorem y_E_128_0 (d : Nat) (a0 : Nat) (a1 : Nat) (x2 : Int) (x3 : Int) (x4 : Int) (x5 : Int) (m : y_m) : y_R sp ph d 128 0 [some (y_bo 7 0 a0), some (y_bo 0 0 a1), some (y_bi x2), some (y_bi x3), some (y_bi x4), some (y_bi x5), none, none, none, none, none, none] [] m = y_bI (y_V sp ph d 65 [y_bo 8 0 14, y_bi (x2 - 1)] m) (fun v1 m1 => if z_w x3 = 0 then y_R sp ph d 128 22 [some (y_bo 7 0 a0), some (y_bo 0 0 a1), none, none, some (y_bi x4), none, some (y_bi v1), none, none, none, none, none] [] m1 else if z_w x2 < 12 then y_R sp ph d 128 32 [some (y_bo 7 0 a0), some (y_bo 0 0 a1), some (y_bi x2), some (y_bi x3), some (y_bi x4), some (y_bi x5), some (y_bi v1), none, none, none, none, none] [] m1 else y_R sp ph d 128 22 [some (y_bo 7 0 a0), some (y_bo 0 0 a1), none, none, some (y_bi x4), none, some (y_bi v1), none, none, none, none, none] [] m1) (fun e m1 => y_px e m1) := by
  rw [y_R_eq (md := z_md_128) rfl rfl]
  exact (y_bIc fun v1 m1 => (y_sh (L' := [some (y_bo 7 0 a0), some (y_bo 0 0 a1), some (y_bi x2), some (y_bi x3), some (y_bi x4), some (y_bi x5), none, none, none, none, none, none]) (S' := [y_bi v1]) rfl rfl rfl))
set_option maxRecDepth 4000 in
theorem y_E_128_22 (d : Nat) (a0 : Nat) (a1 : Nat) (x4 : Int) (x6 : Int) (m : y_m) : y_R sp ph d 128 22 [some (y_bo 7 0 a0), some (y_bo 0 0 a1), none, none, some (y_bi x4), none, some (y_bi x6), none, none, none, none, none] [] m = y_bV (y_V sp ph d 129 [y_bo 7 0 a0, y_bo 0 0 a1, y_bi x6, y_bi x4] m) (fun m1 => y_rV m1) (fun e m1 => y_px e m1) := by
  rw [y_R_eq (md := z_md_128) rfl rfl]
  exact (y_bVc fun m1 => (y_sh (L' := [some (y_bo 7 0 a0), some (y_bo 0 0 a1), none, none, some (y_bi x4), none, some (y_bi x6), none, none, none, none, none]) (S' := []) rfl rfl rfl))
set_option maxRecDepth 4000 in
theorem y_E_128_32 (d : Nat) (a0 : Nat) (a1 : Nat) (x2 : Int) (x3 : Int) (x4 : Int) (x5 : Int) (x6 : Int) (m : y_m) : y_R sp ph d 128 32 [some (y_bo 7 0 a0), some (y_bo 0 0 a1), some (y_bi x2), some (y_bi x3), some (y_bi x4), some (y_bi x5), some (y_bi x6), none, none, none, none, none] [] m = y_bI (y_V sp ph d 81 [y_bo 3 0 16, y_bi x6] m) (fun v1 m1 => if z_w x5 = 0 then y_R sp ph d 128 52 [some (y_bo 7 0 a0), some (y_bo 0 0 a1), some (y_bi x2), some (y_bi x3), some (y_bi x4), none, some (y_bi x6), some (y_bi v1), none, none, none, none] [] m1 else y_R sp ph d 128 68 [some (y_bo 7 0 a0), some (y_bo 0 0 a1), some (y_bi x2), some (y_bi x3), some (y_bi x4), none, some (y_bi x6), some (y_bi v1), none, none, none, none] [y_bi x3] m1) (fun e m1 => y_px e m1) := by
  rw [y_R_eq (md := z_md_128) rfl rfl]
  exact (y_bIc fun v1 m1 => (y_sh (L' := [some (y_bo 7 0 a0), some (y_bo 0 0 a1), some (y_bi x2), some (y_bi x3), some (y_bi x4), some (y_bi x5), some (y_bi x6), none, none, none, none, none]) (S' := [y_bi v1]) rfl rfl rfl))
set_option maxRecDepth 4000 in
theorem y_E_128_52 (d : Nat) (a0 : Nat) (a1 : Nat) (x2 : Int) (x3 : Int) (x4 : Int) (x6 : Int) (x7 : Int) (m : y_m) : y_R sp ph d 128 52 [some (y_bo 7 0 a0), some (y_bo 0 0 a1), some (y_bi x2), some (y_bi x3), some (y_bi x4), none, some (y_bi x6), some (y_bi x7), none, none, none, none] [] m = if ¬ z_w x7 = (-1) then y_R sp ph d 128 62 [some (y_bo 7 0 a0), some (y_bo 0 0 a1), some (y_bi x2), some (y_bi x3), some (y_bi x4), none, some (y_bi x6), some (y_bi x7), none, none, none, none] [] m else y_R sp ph d 128 68 [some (y_bo 7 0 a0), some (y_bo 0 0 a1), some (y_bi x2), some (y_bi x3), some (y_bi x4), none, some (y_bi x6), some (y_bi x7), none, none, none, none] [y_bi 0] m := (y_R_eq (md := z_md_128) rfl rfl).trans rfl
set_option maxRecDepth 4000 in
theorem y_E_128_62 (d : Nat) (a0 : Nat) (a1 : Nat) (x2 : Int) (x3 : Int) (x4 : Int) (x6 : Int) (x7 : Int) (m : y_m) : y_R sp ph d 128 62 [some (y_bo 7 0 a0), some (y_bo 0 0 a1), some (y_bi x2), some (y_bi x3), some (y_bi x4), none, some (y_bi x6), some (y_bi x7), none, none, none, none] [] m = y_R sp ph d 128 68 [some (y_bo 7 0 a0), some (y_bo 0 0 a1), some (y_bi x2), some (y_bi x3), some (y_bi x4), none, some (y_bi x6), some (y_bi x7), none, none, none, none] [y_bi (z_iand x3 (z_ishl 1 x7))] m := (y_R_eq (md := z_md_128) rfl rfl).trans rfl
set_option maxRecDepth 4000 in
theorem y_E_128_68 (d : Nat) (a0 : Nat) (a1 : Nat) (x2 : Int) (x3 : Int) (x4 : Int) (x6 : Int) (x7 : Int) (xs0 : Int) (m : y_m) : y_R sp ph d 128 68 [some (y_bo 7 0 a0), some (y_bo 0 0 a1), some (y_bi x2), some (y_bi x3), some (y_bi x4), none, some (y_bi x6), some (y_bi x7), none, none, none, none] [y_bi xs0] m = y_R sp ph d 128 74 [some (y_bo 7 0 a0), some (y_bo 0 0 a1), some (y_bi x2), some (y_bi x3), some (y_bi x4), none, some (y_bi x6), some (y_bi x7), none, some (y_bi xs0), none, none] [] m := (y_R_eq (md := z_md_128) rfl rfl).trans rfl
set_option maxRecDepth 4000 in
theorem y_E_128_74 (d : Nat) (a0 : Nat) (a1 : Nat) (x2 : Int) (x3 : Int) (x4 : Int) (x6 : Int) (x7 : Int) (x9 : Int) (m : y_m) : y_R sp ph d 128 74 [some (y_bo 7 0 a0), some (y_bo 0 0 a1), some (y_bi x2), some (y_bi x3), some (y_bi x4), none, some (y_bi x6), some (y_bi x7), none, some (y_bi x9), none, none] [] m = if z_w x9 = 0 then y_R sp ph d 128 182 [none, none, none, none, none, none, none, none, none, none, none, none] [] m else y_bI (y_V sp ph d 127 [y_bo 7 0 a0] m) (fun v1 m1 => if ¬ z_w v1 = 0 then y_R sp ph d 128 182 [none, none, none, none, none, none, none, none, none, none, none, none] [] m1 else y_bI (y_V sp ph d 0 [y_bi x9] m1) (fun v2 m2 => y_bI (y_V sp ph d 45 [y_bo 0 0 a1, y_bi x6, y_bi v2] m2) (fun v3 m3 => if z_w x4 = (-1) then y_R sp ph d 128 120 [some (y_bo 7 0 a0), some (y_bo 0 0 a1), some (y_bi x2), some (y_bi x3), some (y_bi x4), none, some (y_bi x6), some (y_bi x7), none, some (y_bi x9), some (y_bi v2), some (y_bi v3)] [] m3 else y_bI (y_V sp ph d 46 [y_bo 0 0 a1, y_bi x4, y_bi v3] m3) (fun v4 m4 => if z_w v4 = 0 then y_R sp ph d 128 170 [some (y_bo 7 0 a0), some (y_bo 0 0 a1), some (y_bi x2), some (y_bi x3), some (y_bi x4), none, some (y_bi x6), some (y_bi x7), none, some (y_bi x9), none, none] [] m4 else y_R sp ph d 128 120 [some (y_bo 7 0 a0), some (y_bo 0 0 a1), some (y_bi x2), some (y_bi x3), some (y_bi x4), none, some (y_bi x6), some (y_bi x7), none, some (y_bi x9), some (y_bi v2), some (y_bi v3)] [] m4) (fun e m1 => y_px e m1)) (fun e m1 => y_px e m1)) (fun e m1 => y_px e m1)) (fun e m1 => y_px e m1) := by
  rw [y_R_eq (md := z_md_128) rfl rfl]
  exact (y_ic rfl (y_bIc fun v1 m1 => (y_sh (L' := [some (y_bo 7 0 a0), some (y_bo 0 0 a1), some (y_bi x2), some (y_bi x3), some (y_bi x4), none, some (y_bi x6), some (y_bi x7), none, some (y_bi x9), none, none]) (S' := [y_bi v1]) rfl rfl (y_ic rfl (y_bIc fun v2 m2 => (y_sh (L' := [some (y_bo 7 0 a0), some (y_bo 0 0 a1), some (y_bi x2), some (y_bi x3), some (y_bi x4), none, some (y_bi x6), some (y_bi x7), none, some (y_bi x9), none, none]) (S' := [y_bi v2]) rfl rfl (y_bIc fun v3 m3 => (y_sh (L' := [some (y_bo 7 0 a0), some (y_bo 0 0 a1), some (y_bi x2), some (y_bi x3), some (y_bi x4), none, some (y_bi x6), some (y_bi x7), none, some (y_bi x9), some (y_bi v2), none]) (S' := [y_bi v3]) rfl rfl (y_ic rfl (y_bIc fun v4 m4 => (y_sh (L' := [some (y_bo 7 0 a0), some (y_bo 0 0 a1), some (y_bi x2), some (y_bi x3), some (y_bi x4), none, some (y_bi x6), some (y_bi x7), none, some (y_bi x9), some (y_bi v2), some (y_bi v3)]) (S' := [y_bi v4]) rfl rfl rfl)))))))))))
set_option maxRecDepth 4000 in
theorem y_E_128_120 (d : Nat) (a0 : Nat) (a1 : Nat) (x2 : Int) (x3 : Int) (x4 : Int) (x6 : Int) (x7 : Int) (x9 : Int) (x10 : Int) (x11 : Int) (m : y_m) : y_R sp ph d 128 120 [some (y_bo 7 0 a0), some (y_bo 0 0 a1), some (y_bi x2), some (y_bi x3), some (y_bi x4), none, some (y_bi x6), some (y_bi x7), none, some (y_bi x9), some (y_bi x10), some (y_bi x11)] [] m = y_bV (y_V sp ph d 66 [y_bo 8 0 14, y_bi x2, y_bi x10] m) (fun m1 => if z_w (y_mI m1 16 1) = 0 then y_R sp ph d 128 162 [some (y_bo 7 0 a0), some (y_bo 0 0 a1), some (y_bi x2), some (y_bi x3), some (y_bi x4), none, some (y_bi x6), some (y_bi x7), none, some (y_bi x9), none, none] [y_bi x11, y_bi (z_iand x3 (z_ixor (z_ishl 1 x10) (-1))), y_bi (x2 + 1), y_bo 0 0 a1, y_bo 7 0 a0] m1 else if ¬ z_w x7 = z_w x10 then y_R sp ph d 128 166 [some (y_bo 7 0 a0), some (y_bo 0 0 a1), some (y_bi x2), some (y_bi x3), some (y_bi x4), none, some (y_bi x6), some (y_bi x7), none, some (y_bi x9), none, none] [y_bi x11, y_bi (z_iand x3 (z_ixor (z_ishl 1 x10) (-1))), y_bi (x2 + 1), y_bo 0 0 a1, y_bo 7 0 a0] m1 else y_R sp ph d 128 162 [some (y_bo 7 0 a0), some (y_bo 0 0 a1), some (y_bi x2), some (y_bi x3), some (y_bi x4), none, some (y_bi x6), some (y_bi x7), none, some (y_bi x9), none, none] [y_bi x11, y_bi (z_iand x3 (z_ixor (z_ishl 1 x10) (-1))), y_bi (x2 + 1), y_bo 0 0 a1, y_bo 7 0 a0] m1) (fun e m1 => y_px e m1) := by
  rw [y_R_eq (md := z_md_128) rfl rfl]
  exact (y_bVc fun m1 => (y_sh (L' := [some (y_bo 7 0 a0), some (y_bo 0 0 a1), some (y_bi x2), some (y_bi x3), some (y_bi x4), none, some (y_bi x6), some (y_bi x7), none, some (y_bi x9), some (y_bi x10), some (y_bi x11)]) (S' := []) rfl rfl rfl))
set_option maxRecDepth 4000 in
theorem y_E_128_162 (d : Nat) (a0 : Nat) (a1 : Nat) (x2 : Int) (x3 : Int) (x4 : Int) (x6 : Int) (x7 : Int) (x9 : Int) (xs0 : Int) (xs1 : Int) (xs2 : Int) (as3 : Nat) (as4 : Nat) (m : y_m) : y_R sp ph d 128 162 [some (y_bo 7 0 a0), some (y_bo 0 0 a1), some (y_bi x2), some (y_bi x3), some (y_bi x4), none, some (y_bi x6), some (y_bi x7), none, some (y_bi x9), none, none] [y_bi xs0, y_bi xs1, y_bi xs2, y_bo 0 0 as3, y_bo 7 0 as4] m = y_R sp ph d 128 167 [some (y_bo 7 0 a0), some (y_bo 0 0 a1), some (y_bi x2), some (y_bi x3), some (y_bi x4), none, some (y_bi x6), some (y_bi x7), none, some (y_bi x9), none, none] [y_bi 1, y_bi xs0, y_bi xs1, y_bi xs2, y_bo 0 0 as3, y_bo 7 0 as4] m := (y_R_eq (md := z_md_128) rfl rfl).trans rfl
set_option maxRecDepth 4000 in
theorem y_E_128_166 (d : Nat) (a0 : Nat) (a1 : Nat) (x2 : Int) (x3 : Int) (x4 : Int) (x6 : Int) (x7 : Int) (x9 : Int) (xs0 : Int) (xs1 : Int) (xs2 : Int) (as3 : Nat) (as4 : Nat) (m : y_m) : y_R sp ph d 128 166 [some (y_bo 7 0 a0), some (y_bo 0 0 a1), some (y_bi x2), some (y_bi x3), some (y_bi x4), none, some (y_bi x6), some (y_bi x7), none, some (y_bi x9), none, none] [y_bi xs0, y_bi xs1, y_bi xs2, y_bo 0 0 as3, y_bo 7 0 as4] m = y_R sp ph d 128 167 [some (y_bo 7 0 a0), some (y_bo 0 0 a1), some (y_bi x2), some (y_bi x3), some (y_bi x4), none, some (y_bi x6), some (y_bi x7), none, some (y_bi x9), none, none] [y_bi 0, y_bi xs0, y_bi xs1, y_bi xs2, y_bo 0 0 as3, y_bo 7 0 as4] m := (y_R_eq (md := z_md_128) rfl rfl).trans rfl
set_option maxRecDepth 4000 in
theorem y_E_128_167 (d : Nat) (a0 : Nat) (a1 : Nat) (x2 : Int) (x3 : Int) (x4 : Int) (x6 : Int) (x7 : Int) (x9 : Int) (xs0 : Int) (xs1 : Int) (xs2 : Int) (xs3 : Int) (as4 : Nat) (as5 : Nat) (m : y_m) : y_R sp ph d 128 167 [some (y_bo 7 0 a0), some (y_bo 0 0 a1), some (y_bi x2), some (y_bi x3), some (y_bi x4), none, some (y_bi x6), some (y_bi x7), none, some (y_bi x9), none, none] [y_bi xs0, y_bi xs1, y_bi xs2, y_bi xs3, y_bo 0 0 as4, y_bo 7 0 as5] m = y_bV (y_V sp ph d 128 [y_bo 7 0 as5, y_bo 0 0 as4, y_bi xs3, y_bi xs2, y_bi xs1, y_bi xs0] m) (fun m1 => y_R sp ph d 128 170 [some (y_bo 7 0 a0), some (y_bo 0 0 a1), some (y_bi x2), some (y_bi x3), some (y_bi x4), none, some (y_bi x6), some (y_bi x7), none, some (y_bi x9), none, none] [] m1) (fun e m1 => y_px e m1) := by
  rw [y_R_eq (md := z_md_128) rfl rfl]
  exact (y_bVc fun m1 => (y_sh (L' := [some (y_bo 7 0 a0), some (y_bo 0 0 a1), some (y_bi x2), some (y_bi x3), some (y_bi x4), none, some (y_bi x6), some (y_bi x7), none, some (y_bi x9), none, none]) (S' := []) rfl rfl rfl))
set_option maxRecDepth 4000 in
theorem y_E_128_170 (d : Nat) (a0 : Nat) (a1 : Nat) (x2 : Int) (x3 : Int) (x4 : Int) (x6 : Int) (x7 : Int) (x9 : Int) (m : y_m) : y_R sp ph d 128 170 [some (y_bo 7 0 a0), some (y_bo 0 0 a1), some (y_bi x2), some (y_bi x3), some (y_bi x4), none, some (y_bi x6), some (y_bi x7), none, some (y_bi x9), none, none] [] m = y_R sp ph d 128 74 [some (y_bo 7 0 a0), some (y_bo 0 0 a1), some (y_bi x2), some (y_bi x3), some (y_bi x4), none, some (y_bi x6), some (y_bi x7), none, some (y_bi (z_iand x9 (x9 - 1))), none, none] [] m := (y_R_eq (md := z_md_128) rfl rfl).trans rfl
set_option maxRecDepth 4000 in
theorem y_E_128_182 (d : Nat) (m : y_m) : y_R sp ph d 128 182 [none, none, none, none, none, none, none, none, none, none, none, none] [] m = y_rV m := (y_R_eq (md := z_md_128) rfl rfl).trans rfl
set_option maxRecDepth 4000 in
theorem y_C_128 (d : Nat) (a0 : Nat) (a1 : Nat) (x2 : Int) (x3 : Int) (x4 : Int) (x5 : Int) (m : y_m) : y_V sp ph (d + 1) 128 [y_bo 7 0 a0, y_bo 0 0 a1, y_bi x2, y_bi x3, y_bi x4, y_bi x5] m = y_R sp ph d 128 0 [some (y_bo 7 0 a0), some (y_bo 0 0 a1), some (y_bi x2), some (y_bi x3), some (y_bi x4), some (y_bi x5), none, none, none, none, none, none] [] m := (y_V_eq (md := z_md_128) rfl rfl rfl).trans rfl
/-! LacedHoles$Walk.comeHome (LLacedHoles$Boot;II)V -/
set_option maxRecDepth 4000 in
theorem y_E_129_0 (d : Nat) (a0 : Nat) (a1 : Nat) (x2 : Int) (x3 : Int) (m : y_m) : y_R sp ph d 129 0 [some (y_bo 7 0 a0), some (y_bo 0 0 a1), some (y_bi x2), some (y_bi x3), none, none, none, none] [] m = y_bI (y_V sp ph d 65 [y_bo 8 0 14, y_bi 0] m) (fun v1 m1 => y_bI (y_V sp ph d 65 [y_bo 8 0 14, y_bi 1] m1) (fun v2 m2 => y_bI (y_V sp ph d 45 [y_bo 0 0 a1, y_bi x2, y_bi v1] m2) (fun v3 m3 => y_bI (y_V sp ph d 46 [y_bo 0 0 a1, y_bi x3, y_bi v3] m3) (fun v4 m4 => if z_w v4 = 0 then y_R sp ph d 129 60 [some (y_bo 7 0 a0), some (y_bo 0 0 a1), some (y_bi x2), none, none, some (y_bi v2), none, none] [] m4 else y_bI (y_V sp ph d 45 [y_bo 0 0 a1, y_bi v1, y_bi v2] m4) (fun v5 m5 => y_bI (y_V sp ph d 46 [y_bo 0 0 a1, y_bi v3, y_bi v5] m5) (fun v6 m6 => if z_w v6 = 0 then y_R sp ph d 129 60 [some (y_bo 7 0 a0), some (y_bo 0 0 a1), some (y_bi x2), none, none, some (y_bi v2), none, none] [] m6 else y_R sp ph d 129 61 [some (y_bo 7 0 a0), some (y_bo 0 0 a1), some (y_bi x2), none, none, some (y_bi v2), none, none] [y_bi 1] m6) (fun e m1 => y_px e m1)) (fun e m1 => y_px e m1)) (fun e m1 => y_px e m1)) (fun e m1 => y_px e m1)) (fun e m1 => y_px e m1)) (fun e m1 => y_px e m1) := by
  rw [y_R_eq (md := z_md_129) rfl rfl]
  exact (y_bIc fun v1 m1 => (y_sh (L' := [some (y_bo 7 0 a0), some (y_bo 0 0 a1), some (y_bi x2), some (y_bi x3), none, none, none, none]) (S' := [y_bi v1]) rfl rfl (y_bIc fun v2 m2 => (y_sh (L' := [some (y_bo 7 0 a0), some (y_bo 0 0 a1), some (y_bi x2), some (y_bi x3), some (y_bi v1), none, none, none]) (S' := [y_bi v2]) rfl rfl (y_bIc fun v3 m3 => (y_sh (L' := [some (y_bo 7 0 a0), some (y_bo 0 0 a1), some (y_bi x2), some (y_bi x3), some (y_bi v1), some (y_bi v2), none, none]) (S' := [y_bi v3]) rfl rfl (y_bIc fun v4 m4 => (y_sh (L' := [some (y_bo 7 0 a0), some (y_bo 0 0 a1), some (y_bi x2), some (y_bi x3), some (y_bi v1), some (y_bi v2), some (y_bi v3), none]) (S' := [y_bi v4]) rfl rfl (y_ic rfl (y_bIc fun v5 m5 => (y_sh (L' := [some (y_bo 7 0 a0), some (y_bo 0 0 a1), some (y_bi x2), some (y_bi x3), some (y_bi v1), some (y_bi v2), some (y_bi v3), none]) (S' := [y_bi v5, y_bi v3, y_bo 0 0 a1]) rfl rfl (y_bIc fun v6 m6 => (y_sh (L' := [some (y_bo 7 0 a0), some (y_bo 0 0 a1), some (y_bi x2), some (y_bi x3), some (y_bi v1), some (y_bi v2), some (y_bi v3), none]) (S' := [y_bi v6]) rfl rfl rfl)))))))))))))
set_option maxRecDepth 4000 in
theorem y_E_129_60 (d : Nat) (a0 : Nat) (a1 : Nat) (x2 : Int) (x5 : Int) (m : y_m) : y_R sp ph d 129 60 [some (y_bo 7 0 a0), some (y_bo 0 0 a1), some (y_bi x2), none, none, some (y_bi x5), none, none] [] m = y_R sp ph d 129 61 [some (y_bo 7 0 a0), some (y_bo 0 0 a1), some (y_bi x2), none, none, some (y_bi x5), none, none] [y_bi 0] m := (y_R_eq (md := z_md_129) rfl rfl).trans rfl
set_option maxRecDepth 4000 in
theorem y_E_129_61 (d : Nat) (a0 : Nat) (a1 : Nat) (x2 : Int) (x5 : Int) (xs0 : Int) (m : y_m) : y_R sp ph d 129 61 [some (y_bo 7 0 a0), some (y_bo 0 0 a1), some (y_bi x2), none, none, some (y_bi x5), none, none] [y_bi xs0] m = if z_w xs0 = 0 then y_R sp ph d 129 120 [none, none, none, none, none, none, none, none] [] m else if z_w (y_mI m a0 2) = 0 then y_R sp ph d 129 81 [some (y_bo 7 0 a0), some (y_bo 0 0 a1), none, none, none, none, none, none] [] m else if z_w x2 ≤ z_w x5 then y_R sp ph d 129 120 [none, none, none, none, none, none, none, none] [] m else y_R sp ph d 129 81 [some (y_bo 7 0 a0), some (y_bo 0 0 a1), none, none, none, none, none, none] [] m := (y_R_eq (md := z_md_129) rfl rfl).trans rfl
set_option maxRecDepth 4000 in
theorem y_E_129_81 (d : Nat) (a0 : Nat) (a1 : Nat) (m : y_m) : y_R sp ph d 129 81 [some (y_bo 7 0 a0), some (y_bo 0 0 a1), none, none, none, none, none, none] [] m = if ¬ z_w (y_mI (y_sI m a0 3 ((y_mI m a0 3) + 1)) a0 2) = 2 then y_R sp ph d 129 115 [none, none, none, none, none, none, none, none] [y_bi (y_mI (y_sI m a0 3 ((y_mI m a0 3) + 1)) a0 4), y_bo 7 0 a0] (y_sI m a0 3 ((y_mI m a0 3) + 1)) else y_bI (y_V sp ph d 76 [y_bo 8 0 14, y_bo 0 0 a1] (y_sI m a0 3 ((y_mI m a0 3) + 1))) (fun v1 m1 => y_R sp ph d 129 116 [none, none, none, none, none, none, none, none] [y_bi v1, y_bi (y_mI (y_sI m a0 3 ((y_mI m a0 3) + 1)) a0 4), y_bo 7 0 a0] m1) (fun e m1 => y_px e m1) := by
  rw [y_R_eq (md := z_md_129) rfl rfl]
  exact (y_ic rfl (y_bIc fun v1 m1 => (y_sh (L' := [some (y_bo 7 0 a0), some (y_bo 0 0 a1), none, none, none, none, none, none]) (S' := [y_bi v1, y_bi (y_mI (y_sI m a0 3 ((y_mI m a0 3) + 1)) a0 4), y_bo 7 0 a0]) rfl rfl rfl)))
set_option maxRecDepth 4000 in
theorem y_E_129_115 (d : Nat) (xs0 : Int) (as1 : Nat) (m : y_m) : y_R sp ph d 129 115 [none, none, none, none, none, none, none, none] [y_bi xs0, y_bo 7 0 as1] m = y_R sp ph d 129 116 [none, none, none, none, none, none, none, none] [y_bi 0, y_bi xs0, y_bo 7 0 as1] m := (y_R_eq (md := z_md_129) rfl rfl).trans rfl
set_option maxRecDepth 4000 in
theorem y_E_129_116 (d : Nat) (xs0 : Int) (xs1 : Int) (as2 : Nat) (m : y_m) : y_R sp ph d 129 116 [none, none, none, none, none, none, none, none] [y_bi xs0, y_bi xs1, y_bo 7 0 as2] m = y_R sp ph d 129 120 [none, none, none, none, none, none, none, none] [] (y_sI m as2 4 (xs1 + xs0)) := (y_R_eq (md := z_md_129) rfl rfl).trans rfl
set_option maxRecDepth 4000 in
theorem y_E_129_120 (d : Nat) (m : y_m) : y_R sp ph d 129 120 [none, none, none, none, none, none, none, none] [] m = y_rV m := (y_R_eq (md := z_md_129) rfl rfl).trans rfl
set_option maxRecDepth 4000 in
theorem y_C_129 (d : Nat) (a0 : Nat) (a1 : Nat) (x2 : Int) (x3 : Int) (m : y_m) : y_V sp ph (d + 1) 129 [y_bo 7 0 a0, y_bo 0 0 a1, y_bi x2, y_bi x3] m = y_R sp ph d 129 0 [some (y_bo 7 0 a0), some (y_bo 0 0 a1), some (y_bi x2), some (y_bi x3), none, none, none, none] [] m := (y_V_eq (md := z_md_129) rfl rfl rfl).trans rfl
/-! LacedHoles$Weeks.share (LLacedHoles$Scene;I)V -/
set_option maxRecDepth 4000 in
theorem y_E_131_0 (d : Nat) (a0 : Nat) (a1 : Nat) (x2 : Int) (m : y_m) : y_R sp ph d 131 0 [some (y_bo 9 0 a0), some (y_bo 5 0 a1), some (y_bi x2), none] [] m = y_R sp ph d 131 2 [some (y_bo 9 0 a0), some (y_bo 5 0 a1), some (y_bi x2), some (y_bi 0)] [] m := (y_R_eq (md := z_md_131) rfl rfl).trans rfl
set_option maxRecDepth 4000 in
theorem y_E_131_2 (d : Nat) (a0 : Nat) (a1 : Nat) (x2 : Int) (x3 : Int) (m : y_m) : y_R sp ph d 131 2 [some (y_bo 9 0 a0), some (y_bo 5 0 a1), some (y_bi x2), some (y_bi x3)] [] m = if 12 ≤ z_w x3 then y_R sp ph d 131 23 [some (y_bo 9 0 a0), some (y_bo 5 0 a1), some (y_bi x2), none] [] m else y_bV (y_V sp ph d 8 [y_bo 100 12 19, y_bi x3, y_bi 0] m) (fun m1 => y_R sp ph d 131 2 [some (y_bo 9 0 a0), some (y_bo 5 0 a1), some (y_bi x2), some (y_bi (x3 + 1))] [] m1) (fun e m1 => y_px e m1) := by
  rw [y_R_eq (md := z_md_131) rfl rfl]
  exact (y_ic rfl (y_bVc fun m1 => (y_sh (L' := [some (y_bo 9 0 a0), some (y_bo 5 0 a1), some (y_bi x2), some (y_bi x3)]) (S' := []) rfl rfl rfl)))
set_option maxRecDepth 4000 in
theorem y_E_131_23 (d : Nat) (a0 : Nat) (a1 : Nat) (x2 : Int) (m : y_m) : y_R sp ph d 131 23 [some (y_bo 9 0 a0), some (y_bo 5 0 a1), some (y_bi x2), none] [] m = y_bV (y_V sp ph d 132 [y_bo 9 0 a0, y_bo 5 0 a1, y_bi 0, y_bi x2, y_bi 0] (y_sI (y_sI m a0 1 2147483647) a0 2 0)) (fun m1 => y_rV m1) (fun e m1 => y_px e m1) := by
  rw [y_R_eq (md := z_md_131) rfl rfl]
  exact (y_bVc fun m1 => (y_sh (L' := [some (y_bo 9 0 a0), some (y_bo 5 0 a1), some (y_bi x2), none]) (S' := []) rfl rfl rfl))
set_option maxRecDepth 4000 in
theorem y_C_131 (d : Nat) (a0 : Nat) (a1 : Nat) (x2 : Int) (m : y_m) : y_V sp ph (d + 1) 131 [y_bo 9 0 a0, y_bo 5 0 a1, y_bi x2] m = y_R sp ph d 131 0 [some (y_bo 9 0 a0), some (y_bo 5 0 a1), some (y_bi x2), none] [] m := (y_V_eq (md := z_md_131) rfl rfl rfl).trans rfl
/-! LacedHoles$Weeks.shareFrom (LLacedHoles$Scene;III)V -/
set_option maxRecDepth 4000 in
theorem y_E_132_0 (d : Nat) (a0 : Nat) (a1 : Nat) (x2 : Int) (x3 : Int) (x4 : Int) (m : y_m) : y_R sp ph d 132 0 [some (y_bo 9 0 a0), some (y_bo 5 0 a1), some (y_bi x2), some (y_bi x3), some (y_bi x4), none] [] m = if z_w ((y_mI m a1 3) - 1) ≤ z_w x2 then y_R sp ph d 132 15 [some (y_bo 9 0 a0), some (y_bo 5 0 a1), some (y_bi x2), some (y_bi x3), some (y_bi x4), none] [] m else if z_w x2 < 4 then y_R sp ph d 132 42 [some (y_bo 9 0 a0), some (y_bo 5 0 a1), some (y_bi x2), some (y_bi x3), some (y_bi x4), none] [] m else y_R sp ph d 132 15 [some (y_bo 9 0 a0), some (y_bo 5 0 a1), some (y_bi x2), some (y_bi x3), some (y_bi x4), none] [] m := (y_R_eq (md := z_md_132) rfl rfl).trans rfl
set_option maxRecDepth 4000 in
theorem y_E_132_15 (d : Nat) (a0 : Nat) (a1 : Nat) (x2 : Int) (x3 : Int) (x4 : Int) (m : y_m) : y_R sp ph d 132 15 [some (y_bo 9 0 a0), some (y_bo 5 0 a1), some (y_bi x2), some (y_bi x3), some (y_bi x4), none] [] m = y_bV (y_V sp ph d 133 [y_bo 9 0 a0, y_bo 5 0 a1, y_bi x2, y_bi x3] m) (fun m1 => y_bV (y_V sp ph d 134 [y_bo 9 0 a0, y_bi ((x4 * 100) + x3)] m1) (fun m2 => y_bV (y_V sp ph d 133 [y_bo 9 0 a0, y_bo 5 0 a1, y_bi x2, y_bi (-x3)] m2) (fun m3 => y_rV m3) (fun e m1 => y_px e m1)) (fun e m1 => y_px e m1)) (fun e m1 => y_px e m1) := by
  rw [y_R_eq (md := z_md_132) rfl rfl]
  exact (y_bVc fun m1 => (y_sh (L' := [some (y_bo 9 0 a0), some (y_bo 5 0 a1), some (y_bi x2), some (y_bi x3), some (y_bi x4), none]) (S' := []) rfl rfl (y_bVc fun m2 => (y_sh (L' := [some (y_bo 9 0 a0), some (y_bo 5 0 a1), some (y_bi x2), some (y_bi x3), some (y_bi x4), none]) (S' := []) rfl rfl (y_bVc fun m3 => (y_sh (L' := [some (y_bo 9 0 a0), some (y_bo 5 0 a1), some (y_bi x2), some (y_bi x3), some (y_bi x4), none]) (S' := []) rfl rfl rfl))))))
set_option maxRecDepth 4000 in
theorem y_E_132_42 (d : Nat) (a0 : Nat) (a1 : Nat) (x2 : Int) (x3 : Int) (x4 : Int) (m : y_m) : y_R sp ph d 132 42 [some (y_bo 9 0 a0), some (y_bo 5 0 a1), some (y_bi x2), some (y_bi x3), some (y_bi x4), none] [] m = y_R sp ph d 132 45 [some (y_bo 9 0 a0), some (y_bo 5 0 a1), some (y_bi x2), some (y_bi x3), some (y_bi x4), some (y_bi 0)] [] m := (y_R_eq (md := z_md_132) rfl rfl).trans rfl
set_option maxRecDepth 4000 in
theorem y_E_132_45 (d : Nat) (a0 : Nat) (a1 : Nat) (x2 : Int) (x3 : Int) (x4 : Int) (x5 : Int) (m : y_m) : y_R sp ph d 132 45 [some (y_bo 9 0 a0), some (y_bo 5 0 a1), some (y_bi x2), some (y_bi x3), some (y_bi x4), some (y_bi x5)] [] m = if z_w x3 < z_w x5 then y_R sp ph d 132 94 [none, none, none, none, none, none] [] m else y_bV (y_V sp ph d 133 [y_bo 9 0 a0, y_bo 5 0 a1, y_bi x2, y_bi x5] m) (fun m1 => y_bV (y_V sp ph d 132 [y_bo 9 0 a0, y_bo 5 0 a1, y_bi (x2 + 1), y_bi (x3 - x5), y_bi ((x4 * 100) + x5)] m1) (fun m2 => y_bV (y_V sp ph d 133 [y_bo 9 0 a0, y_bo 5 0 a1, y_bi x2, y_bi (-x5)] m2) (fun m3 => y_R sp ph d 132 45 [some (y_bo 9 0 a0), some (y_bo 5 0 a1), some (y_bi x2), some (y_bi x3), some (y_bi x4), some (y_bi (x5 + 1))] [] m3) (fun e m1 => y_px e m1)) (fun e m1 => y_px e m1)) (fun e m1 => y_px e m1) := by
  rw [y_R_eq (md := z_md_132) rfl rfl]
  exact (y_ic rfl (y_bVc fun m1 => (y_sh (L' := [some (y_bo 9 0 a0), some (y_bo 5 0 a1), some (y_bi x2), some (y_bi x3), some (y_bi x4), some (y_bi x5)]) (S' := []) rfl rfl (y_bVc fun m2 => (y_sh (L' := [some (y_bo 9 0 a0), some (y_bo 5 0 a1), some (y_bi x2), some (y_bi x3), some (y_bi x4), some (y_bi x5)]) (S' := []) rfl rfl (y_bVc fun m3 => (y_sh (L' := [some (y_bo 9 0 a0), some (y_bo 5 0 a1), some (y_bi x2), some (y_bi x3), some (y_bi x4), some (y_bi x5)]) (S' := []) rfl rfl rfl)))))))
set_option maxRecDepth 4000 in
theorem y_E_132_94 (d : Nat) (m : y_m) : y_R sp ph d 132 94 [none, none, none, none, none, none] [] m = y_rV m := (y_R_eq (md := z_md_132) rfl rfl).trans rfl
set_option maxRecDepth 4000 in
theorem y_C_132 (d : Nat) (a0 : Nat) (a1 : Nat) (x2 : Int) (x3 : Int) (x4 : Int) (m : y_m) : y_V sp ph (d + 1) 132 [y_bo 9 0 a0, y_bo 5 0 a1, y_bi x2, y_bi x3, y_bi x4] m = y_R sp ph d 132 0 [some (y_bo 9 0 a0), some (y_bo 5 0 a1), some (y_bi x2), some (y_bi x3), some (y_bi x4), none] [] m := (y_V_eq (md := z_md_132) rfl rfl rfl).trans rfl
/-! LacedHoles$Weeks.add (LLacedHoles$Scene;II)V -/
set_option maxRecDepth 4000 in
theorem y_E_133_0 (d : Nat) (a0 : Nat) (a1 : Nat) (x2 : Int) (x3 : Int) (m : y_m) : y_R sp ph d 133 0 [some (y_bo 9 0 a0), some (y_bo 5 0 a1), some (y_bi x2), some (y_bi x3), none] [] m = y_R sp ph d 133 3 [some (y_bo 9 0 a0), some (y_bo 5 0 a1), some (y_bi x2), some (y_bi x3), some (y_bi 0)] [] m := (y_R_eq (md := z_md_133) rfl rfl).trans rfl
set_option maxRecDepth 4000 in
theorem y_E_133_3 (d : Nat) (a0 : Nat) (a1 : Nat) (x2 : Int) (x3 : Int) (x4 : Int) (m : y_m) : y_R sp ph d 133 3 [some (y_bo 9 0 a0), some (y_bo 5 0 a1), some (y_bi x2), some (y_bi x3), some (y_bi x4)] [] m = if 12 ≤ z_w x4 then y_R sp ph d 133 44 [none, none, none, none, none] [] m else y_bI (y_V sp ph d 7 [y_bo 100 12 19, y_bi x4] m) (fun v1 m1 => y_bI (y_V sp ph d 88 [y_bo 5 0 a1, y_bi x2, y_bi x4] m1) (fun v2 m2 => y_bV (y_V sp ph d 8 [y_bo 100 12 19, y_bi x4, y_bi (v1 + (x3 * v2))] m2) (fun m3 => y_R sp ph d 133 3 [some (y_bo 9 0 a0), some (y_bo 5 0 a1), some (y_bi x2), some (y_bi x3), some (y_bi (x4 + 1))] [] m3) (fun e m1 => y_px e m1)) (fun e m1 => y_px e m1)) (fun e m1 => y_px e m1) := by
  rw [y_R_eq (md := z_md_133) rfl rfl]
  exact (y_ic rfl (y_bIc fun v1 m1 => (y_sh (L' := [some (y_bo 9 0 a0), some (y_bo 5 0 a1), some (y_bi x2), some (y_bi x3), some (y_bi x4)]) (S' := [y_bi v1, y_bi x4, y_bo 100 12 19]) rfl rfl (y_bIc fun v2 m2 => (y_sh (L' := [some (y_bo 9 0 a0), some (y_bo 5 0 a1), some (y_bi x2), some (y_bi x3), some (y_bi x4)]) (S' := [y_bi v2, y_bi x3, y_bi v1, y_bi x4, y_bo 100 12 19]) rfl rfl (y_bVc fun m3 => (y_sh (L' := [some (y_bo 9 0 a0), some (y_bo 5 0 a1), some (y_bi x2), some (y_bi x3), some (y_bi x4)]) (S' := []) rfl rfl rfl)))))))
set_option maxRecDepth 4000 in
theorem y_E_133_44 (d : Nat) (m : y_m) : y_R sp ph d 133 44 [none, none, none, none, none] [] m = y_rV m := (y_R_eq (md := z_md_133) rfl rfl).trans rfl
set_option maxRecDepth 4000 in
theorem y_C_133 (d : Nat) (a0 : Nat) (a1 : Nat) (x2 : Int) (x3 : Int) (m : y_m) : y_V sp ph (d + 1) 133 [y_bo 9 0 a0, y_bo 5 0 a1, y_bi x2, y_bi x3] m = y_R sp ph d 133 0 [some (y_bo 9 0 a0), some (y_bo 5 0 a1), some (y_bi x2), some (y_bi x3), none] [] m := (y_V_eq (md := z_md_133) rfl rfl rfl).trans rfl
/-! LacedHoles$Weeks.judgeRow (I)V -/
set_option maxRecDepth 4000 in
theorem y_E_134_0 (d : Nat) (a0 : Nat) (x1 : Int) (m : y_m) : y_R sp ph d 134 0 [some (y_bo 9 0 a0), some (y_bi x1), none, none] [] m = y_R sp ph d 134 4 [some (y_bo 9 0 a0), some (y_bi x1), some (y_bi 0), some (y_bi 0)] [] m := (y_R_eq (md := z_md_134) rfl rfl).trans rfl
set_option maxRecDepth 4000 in
theorem y_E_134_4 (d : Nat) (a0 : Nat) (x1 : Int) (x2 : Int) (x3 : Int) (m : y_m) : y_R sp ph d 134 4 [some (y_bo 9 0 a0), some (y_bi x1), some (y_bi x2), some (y_bi x3)] [] m = if 12 ≤ z_w x3 then y_R sp ph d 134 29 [some (y_bo 9 0 a0), some (y_bi x1), some (y_bi x2), none] [] m else y_bI (y_V sp ph d 7 [y_bo 100 12 19, y_bi x3] m) (fun v1 m1 => y_bI (y_V sp ph d 4 [y_bi x2, y_bi v1] m1) (fun v2 m2 => y_R sp ph d 134 4 [some (y_bo 9 0 a0), some (y_bi x1), some (y_bi v2), some (y_bi (x3 + 1))] [] m2) (fun e m1 => y_px e m1)) (fun e m1 => y_px e m1) := by
  rw [y_R_eq (md := z_md_134) rfl rfl]
  exact (y_ic rfl (y_bIc fun v1 m1 => (y_sh (L' := [some (y_bo 9 0 a0), some (y_bi x1), some (y_bi x2), some (y_bi x3)]) (S' := [y_bi v1, y_bi x2]) rfl rfl (y_bIc fun v2 m2 => (y_sh (L' := [some (y_bo 9 0 a0), some (y_bi x1), some (y_bi x2), some (y_bi x3)]) (S' := [y_bi v2]) rfl rfl rfl)))))
set_option maxRecDepth 4000 in
theorem y_E_134_29 (d : Nat) (a0 : Nat) (x1 : Int) (x2 : Int) (m : y_m) : y_R sp ph d 134 29 [some (y_bo 9 0 a0), some (y_bi x1), some (y_bi x2), none] [] m = if z_w (y_mI m a0 1) ≤ z_w x2 then y_R sp ph d 134 47 [none, none, none, none] [] m else y_R sp ph d 134 47 [none, none, none, none] [] (y_sI (y_sI m a0 1 x2) a0 2 x1) := (y_R_eq (md := z_md_134) rfl rfl).trans rfl
set_option maxRecDepth 4000 in
theorem y_E_134_47 (d : Nat) (m : y_m) : y_R sp ph d 134 47 [none, none, none, none] [] m = y_rV m := (y_R_eq (md := z_md_134) rfl rfl).trans rfl
set_option maxRecDepth 4000 in
theorem y_C_134 (d : Nat) (a0 : Nat) (x1 : Int) (m : y_m) : y_V sp ph (d + 1) 134 [y_bo 9 0 a0, y_bi x1] m = y_R sp ph d 134 0 [some (y_bo 9 0 a0), some (y_bi x1), none, none] [] m := (y_V_eq (md := z_md_134) rfl rfl rfl).trans rfl
end YEq0_134
