section YEq176_297
variable {sp : Nat → Nat} {ph : Bool}
/-! LacedHolesModel.tellsNothing ()V -/
set_option maxRecDepth 4000 in
theorem y_E_177_0 (d : Nat) (a0 : Nat) (m : y_m) : y_R sp ph d 177 0 [some (y_bo 11 0 a0), none, none] [] m = y_bb2 (ph && true && true) (y_g (0 < (7 : Int) ∧ (7 : Int) ≤ 1000000) (y_R sp ph d 177 42 [some (y_bo 11 0 a0), some (y_bo 107 7 300000), some (y_bi 0)] [] (y_sI (y_sI (y_sI (y_sI (y_sI (y_sI (y_sI (y_nm m 7) 300000 0 6) 300000 1 6) 300000 2 30) 300000 3 20) 300000 4 0) 300000 5 9999) 300000 6 0))) := (y_R_eq (md := z_md_177) rfl rfl).trans rfl
set_option maxRecDepth 4000 in
theorem y_E_177_42 (d : Nat) (a0 : Nat) (a1 : Nat) (x2 : Int) (m : y_m) : y_R sp ph d 177 42 [some (y_bo 11 0 a0), some (y_bo 107 7 a1), some (y_bi x2)] [] m = if 7 ≤ z_w x2 then y_R sp ph d 177 63 [none, none, none] [] m else y_g (0 ≤ x2 ∧ x2 < (7 : Int)) (y_g (0 ≤ x2 ∧ x2 < (7 : Int)) (y_R sp ph d 177 42 [some (y_bo 11 0 a0), some (y_bo 107 7 a1), some (y_bi (x2 + 1))] [] (y_sI m 51 x2.toNat (y_mI m 300000 x2.toNat)))) := (y_R_eq (md := z_md_177) rfl rfl).trans rfl
set_option maxRecDepth 4000 in
theorem y_E_177_63 (d : Nat) (m : y_m) : y_R sp ph d 177 63 [none, none, none] [] m = y_rV m := (y_R_eq (md := z_md_177) rfl rfl).trans rfl
set_option maxRecDepth 4000 in
theorem y_C_177 (d : Nat) (a0 : Nat) (m : y_m) : y_V sp ph (d + 1) 177 [y_bo 11 0 a0] m = y_R sp ph d 177 0 [some (y_bo 11 0 a0), none, none] [] m := (y_V_eq (md := z_md_177) rfl rfl rfl).trans rfl
/-! LacedHolesModel.thrown ()I -/
set_option maxRecDepth 4000 in
theorem y_E_178_0 (d : Nat) (a0 : Nat) (m : y_m) : y_R sp ph d 178 0 [some (y_bo 11 0 a0)] [] m = y_rI (y_mI m a0 0) m := (y_R_eq (md := z_md_178) rfl rfl).trans rfl
set_option maxRecDepth 4000 in
theorem y_C_178 (d : Nat) (a0 : Nat) (m : y_m) : y_V sp ph (d + 1) 178 [y_bo 11 0 a0] m = y_R sp ph d 178 0 [some (y_bo 11 0 a0)] [] m := (y_V_eq (md := z_md_178) rfl rfl rfl).trans rfl
/-! LacedHolesModel.bad (ZI)Z -/
set_option maxRecDepth 4000 in
theorem y_E_179_0 (d : Nat) (a0 : Nat) (x1 : Int) (x2 : Int) (m : y_m) : y_R sp ph d 179 0 [some (y_bo 11 0 a0), some (y_bi x1), some (y_bi x2)] [] m = if z_w x1 = 0 then y_R sp ph d 179 16 [some (y_bo 11 0 a0), none, none] [] m else if ¬ z_w (y_mI m a0 0) = 0 then y_R sp ph d 179 16 [some (y_bo 11 0 a0), none, none] [] m else y_R sp ph d 179 16 [some (y_bo 11 0 a0), none, none] [] (y_sI m a0 0 x2) := (y_R_eq (md := z_md_179) rfl rfl).trans rfl
set_option maxRecDepth 4000 in
theorem y_E_179_16 (d : Nat) (a0 : Nat) (m : y_m) : y_R sp ph d 179 16 [some (y_bo 11 0 a0), none, none] [] m = if z_w (y_mI m a0 0) = 0 then y_R sp ph d 179 27 [none, none, none] [] m else y_R sp ph d 179 28 [none, none, none] [y_bi 1] m := (y_R_eq (md := z_md_179) rfl rfl).trans rfl
set_option maxRecDepth 4000 in
theorem y_E_179_27 (d : Nat) (m : y_m) : y_R sp ph d 179 27 [none, none, none] [] m = y_R sp ph d 179 28 [none, none, none] [y_bi 0] m := (y_R_eq (md := z_md_179) rfl rfl).trans rfl
set_option maxRecDepth 4000 in
theorem y_E_179_28 (d : Nat) (xs0 : Int) (m : y_m) : y_R sp ph d 179 28 [none, none, none] [y_bi xs0] m = y_g (xs0 = 0 ∨ xs0 = 1) (y_rI xs0 m) := (y_R_eq (md := z_md_179) rfl rfl).trans rfl
set_option maxRecDepth 4000 in
theorem y_C_179 (d : Nat) (a0 : Nat) (x1 : Int) (x2 : Int) (m : y_m) : y_V sp ph (d + 1) 179 [y_bo 11 0 a0, y_bi x1, y_bi x2] m = y_R sp ph d 179 0 [some (y_bo 11 0 a0), some (y_bi x1), some (y_bi x2)] [] m := (y_V_eq (md := z_md_179) rfl rfl rfl).trans rfl
/-! LacedHolesModel.in (III)Z -/
set_option maxRecDepth 4000 in
theorem y_E_180_0 (d : Nat) (x0 : Int) (x1 : Int) (x2 : Int) (m : y_m) : y_R sp ph d 180 0 [some (y_bi x0), some (y_bi x1), some (y_bi x2)] [] m = if z_w x0 < z_w x1 then y_R sp ph d 180 14 [none, none, none] [] m else if z_w x2 < z_w x0 then y_R sp ph d 180 14 [none, none, none] [] m else y_R sp ph d 180 15 [none, none, none] [y_bi 1] m := (y_R_eq (md := z_md_180) rfl rfl).trans rfl
set_option maxRecDepth 4000 in
theorem y_E_180_14 (d : Nat) (m : y_m) : y_R sp ph d 180 14 [none, none, none] [] m = y_R sp ph d 180 15 [none, none, none] [y_bi 0] m := (y_R_eq (md := z_md_180) rfl rfl).trans rfl
set_option maxRecDepth 4000 in
theorem y_E_180_15 (d : Nat) (xs0 : Int) (m : y_m) : y_R sp ph d 180 15 [none, none, none] [y_bi xs0] m = y_g (xs0 = 0 ∨ xs0 = 1) (y_rI xs0 m) := (y_R_eq (md := z_md_180) rfl rfl).trans rfl
set_option maxRecDepth 4000 in
theorem y_C_180 (d : Nat) (x0 : Int) (x1 : Int) (x2 : Int) (m : y_m) : y_V sp ph (d + 1) 180 [y_bi x0, y_bi x1, y_bi x2] m = y_R sp ph d 180 0 [some (y_bi x0), some (y_bi x1), some (y_bi x2)] [] m := (y_V_eq (md := z_md_180) rfl rfl rfl).trans rfl
/-! LacedHolesModel.feed (IIIII)I -/
set_option maxRecDepth 4000 in
theorem y_E_181_0 (d : Nat) (a0 : Nat) (x1 : Int) (x2 : Int) (x3 : Int) (x4 : Int) (x5 : Int) (m : y_m) : y_R sp ph d 181 0 [some (y_bo 11 0 a0), some (y_bi x1), some (y_bi x2), some (y_bi x3), some (y_bi x4), some (y_bi x5), none, none] [] m = if z_w ((y_mI (y_sI m a0 0 0) a0 1) + 20) ≤ 400 then y_R sp ph d 181 20 [some (y_bo 11 0 a0), some (y_bi x1), some (y_bi x2), some (y_bi x3), some (y_bi x4), some (y_bi x5), none, none] [] (y_sI m a0 0 0) else y_rI (-1) (y_sI m a0 0 0) := (y_R_eq (md := z_md_181) rfl rfl).trans rfl
set_option maxRecDepth 4000 in
theorem y_E_181_20 (d : Nat) (a0 : Nat) (x1 : Int) (x2 : Int) (x3 : Int) (x4 : Int) (x5 : Int) (m : y_m) : y_R sp ph d 181 20 [some (y_bo 11 0 a0), some (y_bi x1), some (y_bi x2), some (y_bi x3), some (y_bi x4), some (y_bi x5), none, none] [] m = y_R sp ph d 181 23 [some (y_bo 11 0 a0), some (y_bi x1), some (y_bi x2), some (y_bi x3), some (y_bi x4), some (y_bi x5), some (y_bi 0), none] [] m := (y_R_eq (md := z_md_181) rfl rfl).trans rfl
set_option maxRecDepth 4000 in
theorem y_E_181_23 (d : Nat) (a0 : Nat) (x1 : Int) (x2 : Int) (x3 : Int) (x4 : Int) (x5 : Int) (x6 : Int) (m : y_m) : y_R sp ph d 181 23 [some (y_bo 11 0 a0), some (y_bi x1), some (y_bi x2), some (y_bi x3), some (y_bi x4), some (y_bi x5), some (y_bi x6), none] [] m = if 20 ≤ z_w x6 then y_R sp ph d 181 120 [some (y_bo 11 0 a0), none, none, none, none, none, none, none] [] m else if 4 ≤ z_w x6 then y_R sp ph d 181 40 [some (y_bo 11 0 a0), some (y_bi x1), some (y_bi x2), some (y_bi x3), some (y_bi x4), some (y_bi x5), some (y_bi x6), none] [] m else y_R sp ph d 181 76 [some (y_bo 11 0 a0), some (y_bi x1), some (y_bi x2), some (y_bi x3), some (y_bi x4), some (y_bi x5), some (y_bi x6), none] [y_bi x1] m := (y_R_eq (md := z_md_181) rfl rfl).trans rfl
set_option maxRecDepth 4000 in
theorem y_E_181_40 (d : Nat) (a0 : Nat) (x1 : Int) (x2 : Int) (x3 : Int) (x4 : Int) (x5 : Int) (x6 : Int) (m : y_m) : y_R sp ph d 181 40 [some (y_bo 11 0 a0), some (y_bi x1), some (y_bi x2), some (y_bi x3), some (y_bi x4), some (y_bi x5), some (y_bi x6), none] [] m = if 8 ≤ z_w x6 then y_R sp ph d 181 51 [some (y_bo 11 0 a0), some (y_bi x1), some (y_bi x2), some (y_bi x3), some (y_bi x4), some (y_bi x5), some (y_bi x6), none] [] m else y_R sp ph d 181 76 [some (y_bo 11 0 a0), some (y_bi x1), some (y_bi x2), some (y_bi x3), some (y_bi x4), some (y_bi x5), some (y_bi x6), none] [y_bi x2] m := (y_R_eq (md := z_md_181) rfl rfl).trans rfl
set_option maxRecDepth 4000 in
theorem y_E_181_51 (d : Nat) (a0 : Nat) (x1 : Int) (x2 : Int) (x3 : Int) (x4 : Int) (x5 : Int) (x6 : Int) (m : y_m) : y_R sp ph d 181 51 [some (y_bo 11 0 a0), some (y_bi x1), some (y_bi x2), some (y_bi x3), some (y_bi x4), some (y_bi x5), some (y_bi x6), none] [] m = if 12 ≤ z_w x6 then y_R sp ph d 181 62 [some (y_bo 11 0 a0), some (y_bi x1), some (y_bi x2), some (y_bi x3), some (y_bi x4), some (y_bi x5), some (y_bi x6), none] [] m else y_R sp ph d 181 76 [some (y_bo 11 0 a0), some (y_bi x1), some (y_bi x2), some (y_bi x3), some (y_bi x4), some (y_bi x5), some (y_bi x6), none] [y_bi x3] m := (y_R_eq (md := z_md_181) rfl rfl).trans rfl
set_option maxRecDepth 4000 in
theorem y_E_181_62 (d : Nat) (a0 : Nat) (x1 : Int) (x2 : Int) (x3 : Int) (x4 : Int) (x5 : Int) (x6 : Int) (m : y_m) : y_R sp ph d 181 62 [some (y_bo 11 0 a0), some (y_bi x1), some (y_bi x2), some (y_bi x3), some (y_bi x4), some (y_bi x5), some (y_bi x6), none] [] m = if 16 ≤ z_w x6 then y_R sp ph d 181 74 [some (y_bo 11 0 a0), some (y_bi x1), some (y_bi x2), some (y_bi x3), some (y_bi x4), some (y_bi x5), some (y_bi x6), none] [] m else y_R sp ph d 181 76 [some (y_bo 11 0 a0), some (y_bi x1), some (y_bi x2), some (y_bi x3), some (y_bi x4), some (y_bi x5), some (y_bi x6), none] [y_bi x4] m := (y_R_eq (md := z_md_181) rfl rfl).trans rfl
set_option maxRecDepth 4000 in
theorem y_E_181_74 (d : Nat) (a0 : Nat) (x1 : Int) (x2 : Int) (x3 : Int) (x4 : Int) (x5 : Int) (x6 : Int) (m : y_m) : y_R sp ph d 181 74 [some (y_bo 11 0 a0), some (y_bi x1), some (y_bi x2), some (y_bi x3), some (y_bi x4), some (y_bi x5), some (y_bi x6), none] [] m = y_R sp ph d 181 76 [some (y_bo 11 0 a0), some (y_bi x1), some (y_bi x2), some (y_bi x3), some (y_bi x4), some (y_bi x5), some (y_bi x6), none] [y_bi x5] m := (y_R_eq (md := z_md_181) rfl rfl).trans rfl
set_option maxRecDepth 4000 in
theorem y_E_181_76 (d : Nat) (a0 : Nat) (x1 : Int) (x2 : Int) (x3 : Int) (x4 : Int) (x5 : Int) (x6 : Int) (xs0 : Int) (m : y_m) : y_R sp ph d 181 76 [some (y_bo 11 0 a0), some (y_bi x1), some (y_bi x2), some (y_bi x3), some (y_bi x4), some (y_bi x5), some (y_bi x6), none] [y_bi xs0] m = y_g (0 ≤ y_mI m a0 1 ∧ y_mI m a0 1 < (400 : Int)) (y_R sp ph d 181 23 [some (y_bo 11 0 a0), some (y_bi x1), some (y_bi x2), some (y_bi x3), some (y_bi x4), some (y_bi x5), some (y_bi (x6 + 1)), none] [] (y_sI (y_sI m 50 (y_mI m a0 1).toNat (z_iand (z_ishr xs0 (24 - (8 * (z_irem x6 4)))) 255)) a0 1 ((y_mI (y_sI m 50 (y_mI m a0 1).toNat (z_iand (z_ishr xs0 (24 - (8 * (z_irem x6 4)))) 255)) a0 1) + 1))) := (y_R_eq (md := z_md_181) rfl rfl).trans rfl
set_option maxRecDepth 4000 in
theorem y_E_181_120 (d : Nat) (a0 : Nat) (m : y_m) : y_R sp ph d 181 120 [some (y_bo 11 0 a0), none, none, none, none, none, none, none] [] m = y_rI (y_mI m a0 1) m := (y_R_eq (md := z_md_181) rfl rfl).trans rfl
set_option maxRecDepth 4000 in
theorem y_C_181 (d : Nat) (a0 : Nat) (x1 : Int) (x2 : Int) (x3 : Int) (x4 : Int) (x5 : Int) (m : y_m) : y_V sp ph (d + 1) 181 [y_bo 11 0 a0, y_bi x1, y_bi x2, y_bi x3, y_bi x4, y_bi x5] m = y_R sp ph d 181 0 [some (y_bo 11 0 a0), some (y_bi x1), some (y_bi x2), some (y_bi x3), some (y_bi x4), some (y_bi x5), none, none] [] m := (y_V_eq (md := z_md_181) rfl rfl rfl).trans rfl
/-! LacedHolesModel.byteAt (I)I -/
set_option maxRecDepth 4000 in
theorem y_E_182_0 (d : Nat) (a0 : Nat) (x1 : Int) (m : y_m) : y_R sp ph d 182 0 [some (y_bo 11 0 a0), some (y_bi x1)] [] m = if z_w x1 < z_w (y_mI m a0 2) then y_R sp ph d 182 12 [some (y_bo 11 0 a0), some (y_bi x1)] [] m else y_R sp ph d 182 18 [none, none] [y_bi (-1)] m := (y_R_eq (md := z_md_182) rfl rfl).trans rfl
set_option maxRecDepth 4000 in
theorem y_E_182_12 (d : Nat) (a0 : Nat) (x1 : Int) (m : y_m) : y_R sp ph d 182 12 [some (y_bo 11 0 a0), some (y_bi x1)] [] m = y_g (0 ≤ x1 ∧ x1 < (400 : Int)) (y_R sp ph d 182 18 [none, none] [y_bi (y_mI m 50 x1.toNat)] m) := (y_R_eq (md := z_md_182) rfl rfl).trans rfl
set_option maxRecDepth 4000 in
theorem y_E_182_18 (d : Nat) (xs0 : Int) (m : y_m) : y_R sp ph d 182 18 [none, none] [y_bi xs0] m = y_rI xs0 m := (y_R_eq (md := z_md_182) rfl rfl).trans rfl
set_option maxRecDepth 4000 in
theorem y_C_182 (d : Nat) (a0 : Nat) (x1 : Int) (m : y_m) : y_V sp ph (d + 1) 182 [y_bo 11 0 a0, y_bi x1] m = y_R sp ph d 182 0 [some (y_bo 11 0 a0), some (y_bi x1)] [] m := (y_V_eq (md := z_md_182) rfl rfl rfl).trans rfl
/-! LacedHolesModel.blanks ()V -/
set_option maxRecDepth 4000 in
theorem y_E_183_0 (d : Nat) (a0 : Nat) (m : y_m) : y_R sp ph d 183 0 [some (y_bo 11 0 a0)] [] m = y_bI (y_V sp ph d 182 [y_bo 11 0 a0, y_bi (y_mI m a0 4)] m) (fun v1 m1 => if ¬ z_w v1 = 32 then y_R sp ph d 183 26 [none] [] m1 else y_R sp ph d 183 0 [some (y_bo 11 0 a0)] [] (y_sI m1 a0 4 ((y_mI m1 a0 4) + 1))) (fun e m1 => y_px e m1) := by
  rw [y_R_eq (md := z_md_183) rfl rfl]
  exact (y_bIc fun v1 m1 => (y_sh (L' := [some (y_bo 11 0 a0)]) (S' := [y_bi v1]) rfl rfl rfl))
set_option maxRecDepth 4000 in
theorem y_E_183_26 (d : Nat) (m : y_m) : y_R sp ph d 183 26 [none] [] m = y_rV m := (y_R_eq (md := z_md_183) rfl rfl).trans rfl
set_option maxRecDepth 4000 in
theorem y_C_183 (d : Nat) (a0 : Nat) (m : y_m) : y_V sp ph (d + 1) 183 [y_bo 11 0 a0] m = y_R sp ph d 183 0 [some (y_bo 11 0 a0)] [] m := (y_V_eq (md := z_md_183) rfl rfl rfl).trans rfl
/-! LacedHolesModel.wrong (II)V -/
set_option maxRecDepth 4000 in
theorem y_E_184_0 (d : Nat) (a0 : Nat) (x1 : Int) (x2 : Int) (m : y_m) : y_R sp ph d 184 0 [some (y_bo 11 0 a0), some (y_bi x1), some (y_bi x2)] [] m = if ¬ z_w (y_mI m a0 5) = 0 then y_R sp ph d 184 17 [none, none, none] [] m else y_R sp ph d 184 17 [none, none, none] [] (y_sI (y_sI m a0 5 x1) a0 6 x2) := (y_R_eq (md := z_md_184) rfl rfl).trans rfl
set_option maxRecDepth 4000 in
theorem y_E_184_17 (d : Nat) (m : y_m) : y_R sp ph d 184 17 [none, none, none] [] m = y_rV m := (y_R_eq (md := z_md_184) rfl rfl).trans rfl
set_option maxRecDepth 4000 in
theorem y_C_184 (d : Nat) (a0 : Nat) (x1 : Int) (x2 : Int) (m : y_m) : y_V sp ph (d + 1) 184 [y_bo 11 0 a0, y_bi x1, y_bi x2] m = y_R sp ph d 184 0 [some (y_bo 11 0 a0), some (y_bi x1), some (y_bi x2)] [] m := (y_V_eq (md := z_md_184) rfl rfl rfl).trans rfl
/-! LacedHolesModel.isDigit (I)Z -/
set_option maxRecDepth 4000 in
theorem y_E_185_0 (d : Nat) (x0 : Int) (m : y_m) : y_R sp ph d 185 0 [some (y_bi x0)] [] m = if z_w x0 < 48 then y_R sp ph d 185 16 [none] [] m else if 57 < z_w x0 then y_R sp ph d 185 16 [none] [] m else y_R sp ph d 185 17 [none] [y_bi 1] m := (y_R_eq (md := z_md_185) rfl rfl).trans rfl
set_option maxRecDepth 4000 in
theorem y_E_185_16 (d : Nat) (m : y_m) : y_R sp ph d 185 16 [none] [] m = y_R sp ph d 185 17 [none] [y_bi 0] m := (y_R_eq (md := z_md_185) rfl rfl).trans rfl
set_option maxRecDepth 4000 in
theorem y_E_185_17 (d : Nat) (xs0 : Int) (m : y_m) : y_R sp ph d 185 17 [none] [y_bi xs0] m = y_g (xs0 = 0 ∨ xs0 = 1) (y_rI xs0 m) := (y_R_eq (md := z_md_185) rfl rfl).trans rfl
set_option maxRecDepth 4000 in
theorem y_C_185 (d : Nat) (x0 : Int) (m : y_m) : y_V sp ph (d + 1) 185 [y_bi x0] m = y_R sp ph d 185 0 [some (y_bi x0)] [] m := (y_V_eq (md := z_md_185) rfl rfl rfl).trans rfl
/-! LacedHolesModel.digitsHere ()I -/
set_option maxRecDepth 4000 in
theorem y_E_186_0 (d : Nat) (a0 : Nat) (m : y_m) : y_R sp ph d 186 0 [some (y_bo 11 0 a0), none] [] m = y_R sp ph d 186 2 [some (y_bo 11 0 a0), some (y_bi 0)] [] m := (y_R_eq (md := z_md_186) rfl rfl).trans rfl
set_option maxRecDepth 4000 in
theorem y_E_186_2 (d : Nat) (a0 : Nat) (x1 : Int) (m : y_m) : y_R sp ph d 186 2 [some (y_bo 11 0 a0), some (y_bi x1)] [] m = y_bI (y_V sp ph d 182 [y_bo 11 0 a0, y_bi (y_mI m a0 4)] m) (fun v1 m1 => y_bI (y_V sp ph d 185 [y_bi v1] m1) (fun v2 m2 => if z_w v2 = 0 then y_R sp ph d 186 59 [none, some (y_bi x1)] [] m2 else y_bI (y_V sp ph d 182 [y_bo 11 0 a0, y_bi (y_mI m2 a0 4)] m2) (fun v3 m3 => if z_w (((10 * x1) + v3) - 48) ≤ 100000 then y_R sp ph d 186 44 [some (y_bo 11 0 a0), some (y_bi (((10 * x1) + v3) - 48))] [] m3 else y_R sp ph d 186 45 [some (y_bo 11 0 a0), none] [y_bi 100000] m3) (fun e m1 => y_px e m1)) (fun e m1 => y_px e m1)) (fun e m1 => y_px e m1) := by
  rw [y_R_eq (md := z_md_186) rfl rfl]
  exact (y_bIc fun v1 m1 => (y_sh (L' := [some (y_bo 11 0 a0), some (y_bi x1)]) (S' := [y_bi v1]) rfl rfl (y_bIc fun v2 m2 => (y_sh (L' := [some (y_bo 11 0 a0), some (y_bi x1)]) (S' := [y_bi v2]) rfl rfl (y_ic rfl (y_bIc fun v3 m3 => (y_sh (L' := [some (y_bo 11 0 a0), some (y_bi x1)]) (S' := [y_bi v3, y_bi (10 * x1)]) rfl rfl rfl)))))))
set_option maxRecDepth 4000 in
theorem y_E_186_44 (d : Nat) (a0 : Nat) (x1 : Int) (m : y_m) : y_R sp ph d 186 44 [some (y_bo 11 0 a0), some (y_bi x1)] [] m = y_R sp ph d 186 45 [some (y_bo 11 0 a0), none] [y_bi x1] m := (y_R_eq (md := z_md_186) rfl rfl).trans rfl
set_option maxRecDepth 4000 in
theorem y_E_186_45 (d : Nat) (a0 : Nat) (xs0 : Int) (m : y_m) : y_R sp ph d 186 45 [some (y_bo 11 0 a0), none] [y_bi xs0] m = y_R sp ph d 186 2 [some (y_bo 11 0 a0), some (y_bi xs0)] [] (y_sI m a0 4 ((y_mI m a0 4) + 1)) := (y_R_eq (md := z_md_186) rfl rfl).trans rfl
set_option maxRecDepth 4000 in
theorem y_E_186_59 (d : Nat) (x1 : Int) (m : y_m) : y_R sp ph d 186 59 [none, some (y_bi x1)] [] m = y_rI x1 m := (y_R_eq (md := z_md_186) rfl rfl).trans rfl
set_option maxRecDepth 4000 in
theorem y_C_186 (d : Nat) (a0 : Nat) (m : y_m) : y_V sp ph (d + 1) 186 [y_bo 11 0 a0] m = y_R sp ph d 186 0 [some (y_bo 11 0 a0), none] [] m := (y_V_eq (md := z_md_186) rfl rfl rfl).trans rfl
/-! LacedHolesModel.reads (II)I -/
set_option maxRecDepth 4000 in
theorem y_E_187_0 (d : Nat) (a0 : Nat) (x1 : Int) (x2 : Int) (m : y_m) : y_R sp ph d 187 0 [some (y_bo 11 0 a0), some (y_bi x1), some (y_bi x2), none, none] [] m = if z_w (y_mI m a0 5) = 0 then y_R sp ph d 187 9 [some (y_bo 11 0 a0), some (y_bi x1), some (y_bi x2), none, none] [] m else y_rI 0 m := (y_R_eq (md := z_md_187) rfl rfl).trans rfl
set_option maxRecDepth 4000 in
theorem y_E_187_9 (d : Nat) (a0 : Nat) (x1 : Int) (x2 : Int) (m : y_m) : y_R sp ph d 187 9 [some (y_bo 11 0 a0), some (y_bi x1), some (y_bi x2), none, none] [] m = y_bV (y_V sp ph d 183 [y_bo 11 0 a0] m) (fun m1 => y_bI (y_V sp ph d 182 [y_bo 11 0 a0, y_bi (y_mI m1 a0 4)] m1) (fun v2 m2 => y_bI (y_V sp ph d 185 [y_bi v2] m2) (fun v3 m3 => if ¬ z_w v3 = 0 then y_R sp ph d 187 41 [some (y_bo 11 0 a0), some (y_bi x1), some (y_bi x2), some (y_bi (y_mI m1 a0 4)), none] [] m3 else y_bV (y_V sp ph d 184 [y_bo 11 0 a0, y_bi 1, y_bi (y_mI m3 a0 4)] m3) (fun m4 => y_R sp ph d 187 41 [some (y_bo 11 0 a0), some (y_bi x1), some (y_bi x2), some (y_bi (y_mI m1 a0 4)), none] [] m4) (fun e m1 => y_px e m1)) (fun e m1 => y_px e m1)) (fun e m1 => y_px e m1)) (fun e m1 => y_px e m1) := by
  rw [y_R_eq (md := z_md_187) rfl rfl]
  exact (y_bVc fun m1 => (y_sh (L' := [some (y_bo 11 0 a0), some (y_bi x1), some (y_bi x2), none, none]) (S' := []) rfl rfl (y_bIc fun v2 m2 => (y_sh (L' := [some (y_bo 11 0 a0), some (y_bi x1), some (y_bi x2), some (y_bi (y_mI m1 a0 4)), none]) (S' := [y_bi v2]) rfl rfl (y_bIc fun v3 m3 => (y_sh (L' := [some (y_bo 11 0 a0), some (y_bi x1), some (y_bi x2), some (y_bi (y_mI m1 a0 4)), none]) (S' := [y_bi v3]) rfl rfl (y_ic rfl (y_bVc fun m4 => (y_sh (L' := [some (y_bo 11 0 a0), some (y_bi x1), some (y_bi x2), some (y_bi (y_mI m1 a0 4)), none]) (S' := []) rfl rfl rfl)))))))))
set_option maxRecDepth 4000 in
theorem y_E_187_41 (d : Nat) (a0 : Nat) (x1 : Int) (x2 : Int) (x3 : Int) (m : y_m) : y_R sp ph d 187 41 [some (y_bo 11 0 a0), some (y_bi x1), some (y_bi x2), some (y_bi x3), none] [] m = y_bI (y_V sp ph d 186 [y_bo 11 0 a0] m) (fun v1 m1 => y_bI (y_V sp ph d 180 [y_bi v1, y_bi x1, y_bi x2] m1) (fun v2 m2 => if ¬ z_w v2 = 0 then y_R sp ph d 187 63 [some (y_bo 11 0 a0), none, none, none, some (y_bi v1)] [] m2 else y_bV (y_V sp ph d 184 [y_bo 11 0 a0, y_bi 2, y_bi x3] m2) (fun m3 => y_R sp ph d 187 63 [some (y_bo 11 0 a0), none, none, none, some (y_bi v1)] [] m3) (fun e m1 => y_px e m1)) (fun e m1 => y_px e m1)) (fun e m1 => y_px e m1) := by
  rw [y_R_eq (md := z_md_187) rfl rfl]
  exact (y_bIc fun v1 m1 => (y_sh (L' := [some (y_bo 11 0 a0), some (y_bi x1), some (y_bi x2), some (y_bi x3), none]) (S' := [y_bi v1]) rfl rfl (y_bIc fun v2 m2 => (y_sh (L' := [some (y_bo 11 0 a0), some (y_bi x1), some (y_bi x2), some (y_bi x3), some (y_bi v1)]) (S' := [y_bi v2]) rfl rfl (y_ic rfl (y_bVc fun m3 => (y_sh (L' := [some (y_bo 11 0 a0), some (y_bi x1), some (y_bi x2), some (y_bi x3), some (y_bi v1)]) (S' := []) rfl rfl rfl)))))))
set_option maxRecDepth 4000 in
theorem y_E_187_63 (d : Nat) (a0 : Nat) (x4 : Int) (m : y_m) : y_R sp ph d 187 63 [some (y_bo 11 0 a0), none, none, none, some (y_bi x4)] [] m = if ¬ z_w (y_mI m a0 5) = 0 then y_R sp ph d 187 75 [none, none, none, none, none] [] m else y_R sp ph d 187 76 [none, none, none, none, none] [y_bi x4] m := (y_R_eq (md := z_md_187) rfl rfl).trans rfl
set_option maxRecDepth 4000 in
theorem y_E_187_75 (d : Nat) (m : y_m) : y_R sp ph d 187 75 [none, none, none, none, none] [] m = y_R sp ph d 187 76 [none, none, none, none, none] [y_bi 0] m := (y_R_eq (md := z_md_187) rfl rfl).trans rfl
set_option maxRecDepth 4000 in
theorem y_E_187_76 (d : Nat) (xs0 : Int) (m : y_m) : y_R sp ph d 187 76 [none, none, none, none, none] [y_bi xs0] m = y_rI xs0 m := (y_R_eq (md := z_md_187) rfl rfl).trans rfl
set_option maxRecDepth 4000 in
theorem y_C_187 (d : Nat) (a0 : Nat) (x1 : Int) (x2 : Int) (m : y_m) : y_V sp ph (d + 1) 187 [y_bo 11 0 a0, y_bi x1, y_bi x2] m = y_R sp ph d 187 0 [some (y_bo 11 0 a0), some (y_bi x1), some (y_bi x2), none, none] [] m := (y_V_eq (md := z_md_187) rfl rfl rfl).trans rfl
/-! LacedHolesModel.wordHere ()I -/
set_option maxRecDepth 4000 in
theorem y_E_188_0 (d : Nat) (a0 : Nat) (m : y_m) : y_R sp ph d 188 0 [some (y_bo 11 0 a0), none, none] [] m = y_bV (y_V sp ph d 183 [y_bo 11 0 a0] m) (fun m1 => y_R sp ph d 188 8 [some (y_bo 11 0 a0), some (y_bi 0), some (y_bi 0)] [] m1) (fun e m1 => y_px e m1) := by
  rw [y_R_eq (md := z_md_188) rfl rfl]
  exact (y_bVc fun m1 => (y_sh (L' := [some (y_bo 11 0 a0), none, none]) (S' := []) rfl rfl rfl))
set_option maxRecDepth 4000 in
theorem y_E_188_8 (d : Nat) (a0 : Nat) (x1 : Int) (x2 : Int) (m : y_m) : y_R sp ph d 188 8 [some (y_bo 11 0 a0), some (y_bi x1), some (y_bi x2)] [] m = y_bI (y_V sp ph d 182 [y_bo 11 0 a0, y_bi ((y_mI m a0 4) + x2)] m) (fun v1 m1 => if z_w v1 < 97 then y_R sp ph d 188 75 [none, some (y_bi x1), some (y_bi x2)] [] m1 else y_bI (y_V sp ph d 182 [y_bo 11 0 a0, y_bi ((y_mI m1 a0 4) + x2)] m1) (fun v2 m2 => if 122 < z_w v2 then y_R sp ph d 188 75 [none, some (y_bi x1), some (y_bi x2)] [] m2 else if 6 ≤ z_w x2 then y_R sp ph d 188 67 [some (y_bo 11 0 a0), some (y_bi x1), some (y_bi x2)] [] m2 else y_bI (y_V sp ph d 182 [y_bo 11 0 a0, y_bi ((y_mI m2 a0 4) + x2)] m2) (fun v3 m3 => y_R sp ph d 188 68 [some (y_bo 11 0 a0), none, some (y_bi x2)] [y_bi ((((27 * x1) + v3) - 97) + 1)] m3) (fun e m1 => y_px e m1)) (fun e m1 => y_px e m1)) (fun e m1 => y_px e m1) := by
  rw [y_R_eq (md := z_md_188) rfl rfl]
  exact (y_bIc fun v1 m1 => (y_sh (L' := [some (y_bo 11 0 a0), some (y_bi x1), some (y_bi x2)]) (S' := [y_bi v1]) rfl rfl (y_ic rfl (y_bIc fun v2 m2 => (y_sh (L' := [some (y_bo 11 0 a0), some (y_bi x1), some (y_bi x2)]) (S' := [y_bi v2]) rfl rfl (y_ic rfl (y_ic rfl (y_bIc fun v3 m3 => (y_sh (L' := [some (y_bo 11 0 a0), some (y_bi x1), some (y_bi x2)]) (S' := [y_bi v3, y_bi (27 * x1)]) rfl rfl rfl)))))))))
set_option maxRecDepth 4000 in
theorem y_E_188_67 (d : Nat) (a0 : Nat) (x1 : Int) (x2 : Int) (m : y_m) : y_R sp ph d 188 67 [some (y_bo 11 0 a0), some (y_bi x1), some (y_bi x2)] [] m = y_R sp ph d 188 68 [some (y_bo 11 0 a0), none, some (y_bi x2)] [y_bi x1] m := (y_R_eq (md := z_md_188) rfl rfl).trans rfl
set_option maxRecDepth 4000 in
theorem y_E_188_68 (d : Nat) (a0 : Nat) (x2 : Int) (xs0 : Int) (m : y_m) : y_R sp ph d 188 68 [some (y_bo 11 0 a0), none, some (y_bi x2)] [y_bi xs0] m = y_R sp ph d 188 8 [some (y_bo 11 0 a0), some (y_bi xs0), some (y_bi (x2 + 1))] [] m := (y_R_eq (md := z_md_188) rfl rfl).trans rfl
set_option maxRecDepth 4000 in
theorem y_E_188_75 (d : Nat) (x1 : Int) (x2 : Int) (m : y_m) : y_R sp ph d 188 75 [none, some (y_bi x1), some (y_bi x2)] [] m = if z_w x2 ≤ 6 then y_R sp ph d 188 85 [none, some (y_bi x1), none] [] m else y_R sp ph d 188 86 [none, none, none] [y_bi (-1)] m := (y_R_eq (md := z_md_188) rfl rfl).trans rfl
set_option maxRecDepth 4000 in
theorem y_E_188_85 (d : Nat) (x1 : Int) (m : y_m) : y_R sp ph d 188 85 [none, some (y_bi x1), none] [] m = y_R sp ph d 188 86 [none, none, none] [y_bi x1] m := (y_R_eq (md := z_md_188) rfl rfl).trans rfl
set_option maxRecDepth 4000 in
theorem y_E_188_86 (d : Nat) (xs0 : Int) (m : y_m) : y_R sp ph d 188 86 [none, none, none] [y_bi xs0] m = y_rI xs0 m := (y_R_eq (md := z_md_188) rfl rfl).trans rfl
set_option maxRecDepth 4000 in
theorem y_C_188 (d : Nat) (a0 : Nat) (m : y_m) : y_V sp ph (d + 1) 188 [y_bo 11 0 a0] m = y_R sp ph d 188 0 [some (y_bo 11 0 a0), none, none] [] m := (y_V_eq (md := z_md_188) rfl rfl rfl).trans rfl
/-! LacedHolesModel.five (IIIII)I -/
set_option maxRecDepth 4000 in
theorem y_E_189_0 (d : Nat) (x0 : Int) (x1 : Int) (x2 : Int) (x3 : Int) (x4 : Int) (m : y_m) : y_R sp ph d 189 0 [some (y_bi x0), some (y_bi x1), some (y_bi x2), some (y_bi x3), some (y_bi x4), none] [] m = if ¬ z_w x3 = 0 then y_R sp ph d 189 22 [none, none, none, some (y_bi x3), some (y_bi x4), some (y_bi ((27 * ((27 * x0) + x1)) + x2))] [] m else y_R sp ph d 189 29 [none, none, none, none, some (y_bi x4), none] [y_bi ((27 * ((27 * x0) + x1)) + x2)] m := (y_R_eq (md := z_md_189) rfl rfl).trans rfl
set_option maxRecDepth 4000 in
theorem y_E_189_22 (d : Nat) (x3 : Int) (x4 : Int) (x5 : Int) (m : y_m) : y_R sp ph d 189 22 [none, none, none, some (y_bi x3), some (y_bi x4), some (y_bi x5)] [] m = y_R sp ph d 189 29 [none, none, none, none, some (y_bi x4), none] [y_bi ((27 * x5) + x3)] m := (y_R_eq (md := z_md_189) rfl rfl).trans rfl
set_option maxRecDepth 4000 in
theorem y_E_189_29 (d : Nat) (x4 : Int) (xs0 : Int) (m : y_m) : y_R sp ph d 189 29 [none, none, none, none, some (y_bi x4), none] [y_bi xs0] m = if ¬ z_w x4 = 0 then y_R sp ph d 189 41 [none, none, none, none, some (y_bi x4), some (y_bi xs0)] [] m else y_R sp ph d 189 49 [none, none, none, none, none, none] [y_bi xs0] m := (y_R_eq (md := z_md_189) rfl rfl).trans rfl
set_option maxRecDepth 4000 in
theorem y_E_189_41 (d : Nat) (x4 : Int) (x5 : Int) (m : y_m) : y_R sp ph d 189 41 [none, none, none, none, some (y_bi x4), some (y_bi x5)] [] m = y_R sp ph d 189 49 [none, none, none, none, none, none] [y_bi ((27 * x5) + x4)] m := (y_R_eq (md := z_md_189) rfl rfl).trans rfl
set_option maxRecDepth 4000 in
theorem y_E_189_49 (d : Nat) (xs0 : Int) (m : y_m) : y_R sp ph d 189 49 [none, none, none, none, none, none] [y_bi xs0] m = y_rI xs0 m := (y_R_eq (md := z_md_189) rfl rfl).trans rfl
set_option maxRecDepth 4000 in
theorem y_C_189 (d : Nat) (x0 : Int) (x1 : Int) (x2 : Int) (x3 : Int) (x4 : Int) (m : y_m) : y_V sp ph (d + 1) 189 [y_bi x0, y_bi x1, y_bi x2, y_bi x3, y_bi x4] m = y_R sp ph d 189 0 [some (y_bi x0), some (y_bi x1), some (y_bi x2), some (y_bi x3), some (y_bi x4), none] [] m := (y_V_eq (md := z_md_189) rfl rfl rfl).trans rfl
/-! LacedHolesModel.isWord (IIIII)Z -/
set_option maxRecDepth 4000 in
theorem y_E_190_0 (d : Nat) (a0 : Nat) (x1 : Int) (x2 : Int) (x3 : Int) (x4 : Int) (x5 : Int) (m : y_m) : y_R sp ph d 190 0 [some (y_bo 11 0 a0), some (y_bi x1), some (y_bi x2), some (y_bi x3), some (y_bi x4), some (y_bi x5)] [] m = if ¬ z_w (y_mI m a0 5) = 0 then y_R sp ph d 190 28 [none, none, none, none, none, none] [] m else y_bI (y_V sp ph d 188 [y_bo 11 0 a0] m) (fun v1 m1 => y_bI (y_V sp ph d 189 [y_bi x1, y_bi x2, y_bi x3, y_bi x4, y_bi x5] m1) (fun v2 m2 => if ¬ z_w v1 = z_w v2 then y_R sp ph d 190 28 [none, none, none, none, none, none] [] m2 else y_R sp ph d 190 29 [none, none, none, none, none, none] [y_bi 1] m2) (fun e m1 => y_px e m1)) (fun e m1 => y_px e m1) := by
  rw [y_R_eq (md := z_md_190) rfl rfl]
  exact (y_ic rfl (y_bIc fun v1 m1 => (y_sh (L' := [some (y_bo 11 0 a0), some (y_bi x1), some (y_bi x2), some (y_bi x3), some (y_bi x4), some (y_bi x5)]) (S' := [y_bi v1]) rfl rfl (y_bIc fun v2 m2 => (y_sh (L' := [some (y_bo 11 0 a0), some (y_bi x1), some (y_bi x2), some (y_bi x3), some (y_bi x4), some (y_bi x5)]) (S' := [y_bi v2, y_bi v1]) rfl rfl rfl)))))
set_option maxRecDepth 4000 in
theorem y_E_190_28 (d : Nat) (m : y_m) : y_R sp ph d 190 28 [none, none, none, none, none, none] [] m = y_R sp ph d 190 29 [none, none, none, none, none, none] [y_bi 0] m := (y_R_eq (md := z_md_190) rfl rfl).trans rfl
set_option maxRecDepth 4000 in
theorem y_E_190_29 (d : Nat) (xs0 : Int) (m : y_m) : y_R sp ph d 190 29 [none, none, none, none, none, none] [y_bi xs0] m = y_g (xs0 = 0 ∨ xs0 = 1) (y_rI xs0 m) := (y_R_eq (md := z_md_190) rfl rfl).trans rfl
set_option maxRecDepth 4000 in
theorem y_C_190 (d : Nat) (a0 : Nat) (x1 : Int) (x2 : Int) (x3 : Int) (x4 : Int) (x5 : Int) (m : y_m) : y_V sp ph (d + 1) 190 [y_bo 11 0 a0, y_bi x1, y_bi x2, y_bi x3, y_bi x4, y_bi x5] m = y_R sp ph d 190 0 [some (y_bo 11 0 a0), some (y_bi x1), some (y_bi x2), some (y_bi x3), some (y_bi x4), some (y_bi x5)] [] m := (y_V_eq (md := z_md_190) rfl rfl rfl).trans rfl
/-! LacedHolesModel.starts (I)V -/
set_option maxRecDepth 4000 in
theorem y_E_191_0 (d : Nat) (a0 : Nat) (x1 : Int) (m : y_m) : y_R sp ph d 191 0 [some (y_bo 11 0 a0), some (y_bi x1)] [] m = y_bV (y_V sp ph d 183 [y_bo 11 0 a0] (y_sI (y_sI (y_sI (y_sI (y_sI (y_sI m a0 1 0) a0 2 x1) a0 4 0) a0 5 0) a0 6 (-1)) a0 7 0)) (fun m1 => y_rV m1) (fun e m1 => y_px e m1) := by
  rw [y_R_eq (md := z_md_191) rfl rfl]
  exact (y_bVc fun m1 => (y_sh (L' := [some (y_bo 11 0 a0), some (y_bi x1)]) (S' := []) rfl rfl rfl))
set_option maxRecDepth 4000 in
theorem y_C_191 (d : Nat) (a0 : Nat) (x1 : Int) (m : y_m) : y_V sp ph (d + 1) 191 [y_bo 11 0 a0, y_bi x1] m = y_R sp ph d 191 0 [some (y_bo 11 0 a0), some (y_bi x1)] [] m := (y_V_eq (md := z_md_191) rfl rfl rfl).trans rfl
/-! LacedHolesModel.clause ()V -/
set_option maxRecDepth 4000 in
theorem y_E_192_0 (d : Nat) (a0 : Nat) (m : y_m) : y_R sp ph d 192 0 [some (y_bo 11 0 a0), none] [] m = y_bI (y_V sp ph d 190 [y_bo 11 0 a0, y_bi 18, y_bi 15, y_bi 23, y_bi 19, y_bi 0] m) (fun v1 m1 => if z_w v1 = 0 then y_R sp ph d 192 20 [some (y_bo 11 0 a0), none] [] m1 else y_R sp ph d 192 96 [some (y_bo 11 0 a0), none] [y_bi 0] m1) (fun e m1 => y_px e m1) := by
  rw [y_R_eq (md := z_md_192) rfl rfl]
  exact (y_bIc fun v1 m1 => (y_sh (L' := [some (y_bo 11 0 a0), none]) (S' := [y_bi v1]) rfl rfl rfl))
set_option maxRecDepth 4000 in
theorem y_E_192_20 (d : Nat) (a0 : Nat) (m : y_m) : y_R sp ph d 192 20 [some (y_bo 11 0 a0), none] [] m = y_bI (y_V sp ph d 190 [y_bo 11 0 a0, y_bi 1, y_bi 16, y_bi 1, y_bi 18, y_bi 20] m) (fun v1 m1 => if z_w v1 = 0 then y_R sp ph d 192 39 [some (y_bo 11 0 a0), none] [] m1 else y_R sp ph d 192 96 [some (y_bo 11 0 a0), none] [y_bi 2] m1) (fun e m1 => y_px e m1) := by
  rw [y_R_eq (md := z_md_192) rfl rfl]
  exact (y_bIc fun v1 m1 => (y_sh (L' := [some (y_bo 11 0 a0), none]) (S' := [y_bi v1]) rfl rfl rfl))
set_option maxRecDepth 4000 in
theorem y_E_192_39 (d : Nat) (a0 : Nat) (m : y_m) : y_R sp ph d 192 39 [some (y_bo 11 0 a0), none] [] m = y_bI (y_V sp ph d 190 [y_bo 11 0 a0, y_bi 12, y_bi 1, y_bi 23, y_bi 0, y_bi 0] m) (fun v1 m1 => if z_w v1 = 0 then y_R sp ph d 192 57 [some (y_bo 11 0 a0), none] [] m1 else y_R sp ph d 192 96 [some (y_bo 11 0 a0), none] [y_bi 4] m1) (fun e m1 => y_px e m1) := by
  rw [y_R_eq (md := z_md_192) rfl rfl]
  exact (y_bIc fun v1 m1 => (y_sh (L' := [some (y_bo 11 0 a0), none]) (S' := [y_bi v1]) rfl rfl rfl))
set_option maxRecDepth 4000 in
theorem y_E_192_57 (d : Nat) (a0 : Nat) (m : y_m) : y_R sp ph d 192 57 [some (y_bo 11 0 a0), none] [] m = y_bI (y_V sp ph d 190 [y_bo 11 0 a0, y_bi 12, y_bi 1, y_bi 3, y_bi 5, y_bi 0] m) (fun v1 m1 => if z_w v1 = 0 then y_R sp ph d 192 74 [some (y_bo 11 0 a0), none] [] m1 else y_R sp ph d 192 96 [some (y_bo 11 0 a0), none] [y_bi 5] m1) (fun e m1 => y_px e m1) := by
  rw [y_R_eq (md := z_md_192) rfl rfl]
  exact (y_bIc fun v1 m1 => (y_sh (L' := [some (y_bo 11 0 a0), none]) (S' := [y_bi v1]) rfl rfl rfl))
set_option maxRecDepth 4000 in
theorem y_E_192_74 (d : Nat) (a0 : Nat) (m : y_m) : y_R sp ph d 192 74 [some (y_bo 11 0 a0), none] [] m = y_bI (y_V sp ph d 190 [y_bo 11 0 a0, y_bi 20, y_bi 15, y_bi 18, y_bi 14, y_bi 0] m) (fun v1 m1 => if z_w v1 = 0 then y_R sp ph d 192 95 [some (y_bo 11 0 a0), none] [] m1 else y_R sp ph d 192 96 [some (y_bo 11 0 a0), none] [y_bi 6] m1) (fun e m1 => y_px e m1) := by
  rw [y_R_eq (md := z_md_192) rfl rfl]
  exact (y_bIc fun v1 m1 => (y_sh (L' := [some (y_bo 11 0 a0), none]) (S' := [y_bi v1]) rfl rfl rfl))
set_option maxRecDepth 4000 in
theorem y_E_192_95 (d : Nat) (a0 : Nat) (m : y_m) : y_R sp ph d 192 95 [some (y_bo 11 0 a0), none] [] m = y_R sp ph d 192 96 [some (y_bo 11 0 a0), none] [y_bi (-1)] m := (y_R_eq (md := z_md_192) rfl rfl).trans rfl
set_option maxRecDepth 4000 in
theorem y_E_192_96 (d : Nat) (a0 : Nat) (xs0 : Int) (m : y_m) : y_R sp ph d 192 96 [some (y_bo 11 0 a0), none] [y_bi xs0] m = if ¬ z_w xs0 = (-1) then y_R sp ph d 192 114 [some (y_bo 11 0 a0), some (y_bi xs0)] [] m else y_bV (y_V sp ph d 184 [y_bo 11 0 a0, y_bi 1, y_bi (y_mI m a0 4)] m) (fun m1 => y_R sp ph d 192 155 [some (y_bo 11 0 a0), some (y_bi xs0)] [] m1) (fun e m1 => y_px e m1) := by
  rw [y_R_eq (md := z_md_192) rfl rfl]
  exact (y_ic rfl (y_bVc fun m1 => (y_sh (L' := [some (y_bo 11 0 a0), some (y_bi xs0)]) (S' := []) rfl rfl rfl)))
set_option maxRecDepth 4000 in
theorem y_E_192_114 (d : Nat) (a0 : Nat) (x1 : Int) (m : y_m) : y_R sp ph d 192 114 [some (y_bo 11 0 a0), some (y_bi x1)] [] m = if ¬ z_w (y_mI m a0 7) = 40 then y_R sp ph d 192 135 [some (y_bo 11 0 a0), some (y_bi x1)] [] m else y_bV (y_V sp ph d 184 [y_bo 11 0 a0, y_bi 3, y_bi (y_mI m a0 4)] m) (fun m1 => y_R sp ph d 192 155 [some (y_bo 11 0 a0), some (y_bi x1)] [] m1) (fun e m1 => y_px e m1) := by
  rw [y_R_eq (md := z_md_192) rfl rfl]
  exact (y_ic rfl (y_bVc fun m1 => (y_sh (L' := [some (y_bo 11 0 a0), some (y_bi x1)]) (S' := []) rfl rfl rfl)))
set_option maxRecDepth 4000 in
theorem y_E_192_135 (d : Nat) (a0 : Nat) (x1 : Int) (m : y_m) : y_R sp ph d 192 135 [some (y_bo 11 0 a0), some (y_bi x1)] [] m = if ¬ z_w x1 = 0 then y_R sp ph d 192 155 [some (y_bo 11 0 a0), some (y_bi x1)] [] m else if z_w (y_mI m a0 7) ≤ 0 then y_R sp ph d 192 155 [some (y_bo 11 0 a0), some (y_bi x1)] [] m else y_bV (y_V sp ph d 184 [y_bo 11 0 a0, y_bi 4, y_bi (y_mI m a0 4)] m) (fun m1 => y_R sp ph d 192 155 [some (y_bo 11 0 a0), some (y_bi x1)] [] m1) (fun e m1 => y_px e m1) := by
  rw [y_R_eq (md := z_md_192) rfl rfl]
  exact (y_ic rfl (y_ic rfl (y_bVc fun m1 => (y_sh (L' := [some (y_bo 11 0 a0), some (y_bi x1)]) (S' := []) rfl rfl rfl))))
set_option maxRecDepth 4000 in
theorem y_E_192_155 (d : Nat) (a0 : Nat) (x1 : Int) (m : y_m) : y_R sp ph d 192 155 [some (y_bo 11 0 a0), some (y_bi x1)] [] m = if z_w (y_mI m a0 5) = 0 then y_R sp ph d 192 163 [some (y_bo 11 0 a0), some (y_bi x1)] [] m else y_rV m := (y_R_eq (md := z_md_192) rfl rfl).trans rfl
set_option maxRecDepth 4000 in
theorem y_E_192_163 (d : Nat) (a0 : Nat) (x1 : Int) (m : y_m) : y_R sp ph d 192 163 [some (y_bo 11 0 a0), some (y_bi x1)] [] m = y_bI (y_V sp ph d 182 [y_bo 11 0 a0, y_bi (y_mI m a0 4)] m) (fun v1 m1 => if z_w v1 < 97 then y_R sp ph d 192 202 [some (y_bo 11 0 a0), some (y_bi x1)] [] m1 else y_bI (y_V sp ph d 182 [y_bo 11 0 a0, y_bi (y_mI m1 a0 4)] m1) (fun v2 m2 => if 122 < z_w v2 then y_R sp ph d 192 202 [some (y_bo 11 0 a0), some (y_bi x1)] [] m2 else y_R sp ph d 192 163 [some (y_bo 11 0 a0), some (y_bi x1)] [] (y_sI m2 a0 4 ((y_mI m2 a0 4) + 1))) (fun e m1 => y_px e m1)) (fun e m1 => y_px e m1) := by
  rw [y_R_eq (md := z_md_192) rfl rfl]
  exact (y_bIc fun v1 m1 => (y_sh (L' := [some (y_bo 11 0 a0), some (y_bi x1)]) (S' := [y_bi v1]) rfl rfl (y_ic rfl (y_bIc fun v2 m2 => (y_sh (L' := [some (y_bo 11 0 a0), some (y_bi x1)]) (S' := [y_bi v2]) rfl rfl rfl)))))
set_option maxRecDepth 4000 in
theorem y_E_192_202 (d : Nat) (a0 : Nat) (x1 : Int) (m : y_m) : y_R sp ph d 192 202 [some (y_bo 11 0 a0), some (y_bi x1)] [] m = if ¬ z_w x1 = 0 then y_R sp ph d 192 245 [some (y_bo 11 0 a0), some (y_bi x1)] [] (y_sI m a0 7 ((y_mI m a0 7) + 1)) else y_bI (y_V sp ph d 187 [y_bo 11 0 a0, y_bi 1, y_bi 6] (y_sI m a0 7 ((y_mI m a0 7) + 1))) (fun v1 m1 => y_bI (y_V sp ph d 187 [y_bo 11 0 a0, y_bi 1, y_bi 6] (y_sI m1 51 0 v1)) (fun v2 m2 => y_R sp ph d 192 353 [some (y_bo 11 0 a0), none] [] (y_sI m2 51 1 v2)) (fun e m1 => y_px e m1)) (fun e m1 => y_px e m1) := by
  rw [y_R_eq (md := z_md_192) rfl rfl]
  exact (y_ic rfl (y_bIc fun v1 m1 => (y_sh (L' := [some (y_bo 11 0 a0), some (y_bi x1)]) (S' := [y_bi v1, y_bi 0, y_bo 100 7 51]) rfl rfl (y_bIc fun v2 m2 => (y_sh (L' := [some (y_bo 11 0 a0), some (y_bi x1)]) (S' := [y_bi v2, y_bi 1, y_bo 100 7 51]) rfl rfl rfl)))))
set_option maxRecDepth 4000 in
theorem y_E_192_245 (d : Nat) (a0 : Nat) (x1 : Int) (m : y_m) : y_R sp ph d 192 245 [some (y_bo 11 0 a0), some (y_bi x1)] [] m = if ¬ z_w x1 = 2 then y_R sp ph d 192 279 [some (y_bo 11 0 a0), some (y_bi x1)] [] m else y_bI (y_V sp ph d 187 [y_bo 11 0 a0, y_bi 1, y_bi 99] m) (fun v1 m1 => y_bI (y_V sp ph d 187 [y_bo 11 0 a0, y_bi 1, y_bi 99] (y_sI m1 51 2 v1)) (fun v2 m2 => y_R sp ph d 192 353 [some (y_bo 11 0 a0), none] [] (y_sI m2 51 3 v2)) (fun e m1 => y_px e m1)) (fun e m1 => y_px e m1) := by
  rw [y_R_eq (md := z_md_192) rfl rfl]
  exact (y_ic rfl (y_bIc fun v1 m1 => (y_sh (L' := [some (y_bo 11 0 a0), some (y_bi x1)]) (S' := [y_bi v1, y_bi 2, y_bo 100 7 51]) rfl rfl (y_bIc fun v2 m2 => (y_sh (L' := [some (y_bo 11 0 a0), some (y_bi x1)]) (S' := [y_bi v2, y_bi 3, y_bo 100 7 51]) rfl rfl rfl)))))
set_option maxRecDepth 4000 in
theorem y_E_192_279 (d : Nat) (a0 : Nat) (x1 : Int) (m : y_m) : y_R sp ph d 192 279 [some (y_bo 11 0 a0), some (y_bi x1)] [] m = if ¬ z_w x1 = 4 then y_R sp ph d 192 299 [some (y_bo 11 0 a0), some (y_bi x1)] [] m else y_bI (y_V sp ph d 187 [y_bo 11 0 a0, y_bi 0, y_bi 2] m) (fun v1 m1 => y_R sp ph d 192 353 [some (y_bo 11 0 a0), none] [] (y_sI m1 51 4 v1)) (fun e m1 => y_px e m1) := by
  rw [y_R_eq (md := z_md_192) rfl rfl]
  exact (y_ic rfl (y_bIc fun v1 m1 => (y_sh (L' := [some (y_bo 11 0 a0), some (y_bi x1)]) (S' := [y_bi v1, y_bi 4, y_bo 100 7 51]) rfl rfl rfl)))
set_option maxRecDepth 4000 in
theorem y_E_192_299 (d : Nat) (a0 : Nat) (x1 : Int) (m : y_m) : y_R sp ph d 192 299 [some (y_bo 11 0 a0), some (y_bi x1)] [] m = if ¬ z_w x1 = 5 then y_R sp ph d 192 321 [some (y_bo 11 0 a0), none] [] m else y_bI (y_V sp ph d 187 [y_bo 11 0 a0, y_bi 1, y_bi 9999] m) (fun v1 m1 => y_R sp ph d 192 353 [some (y_bo 11 0 a0), none] [] (y_sI m1 51 5 v1)) (fun e m1 => y_px e m1) := by
  rw [y_R_eq (md := z_md_192) rfl rfl]
  exact (y_ic rfl (y_bIc fun v1 m1 => (y_sh (L' := [some (y_bo 11 0 a0), some (y_bi x1)]) (S' := [y_bi v1, y_bi 5, y_bo 100 7 51]) rfl rfl rfl)))
set_option maxRecDepth 4000 in
theorem y_E_192_321 (d : Nat) (a0 : Nat) (m : y_m) : y_R sp ph d 192 321 [some (y_bo 11 0 a0), none] [] m = y_bI (y_V sp ph d 187 [y_bo 11 0 a0, y_bi 0, y_bi (((y_mI m 51 0) + (y_mI m 51 1)) - 1)] m) (fun v1 m1 => y_R sp ph d 192 353 [some (y_bo 11 0 a0), none] [] (y_sI m1 51 6 (z_ior (y_mI m 51 6) (z_ishl 1 v1)))) (fun e m1 => y_px e m1) := by
  rw [y_R_eq (md := z_md_192) rfl rfl]
  exact (y_bIc fun v1 m1 => (y_sh (L' := [some (y_bo 11 0 a0), none]) (S' := [y_bi v1, y_bi 1, y_bi (y_mI m 51 6), y_bi 6, y_bo 100 7 51]) rfl rfl rfl))
set_option maxRecDepth 4000 in
theorem y_E_192_353 (d : Nat) (a0 : Nat) (m : y_m) : y_R sp ph d 192 353 [some (y_bo 11 0 a0), none] [] m = if z_w (y_mI m a0 5) = 0 then y_R sp ph d 192 361 [some (y_bo 11 0 a0), none] [] m else y_rV m := (y_R_eq (md := z_md_192) rfl rfl).trans rfl
set_option maxRecDepth 4000 in
theorem y_E_192_361 (d : Nat) (a0 : Nat) (m : y_m) : y_R sp ph d 192 361 [some (y_bo 11 0 a0), none] [] m = y_bV (y_V sp ph d 183 [y_bo 11 0 a0] m) (fun m1 => y_bI (y_V sp ph d 182 [y_bo 11 0 a0, y_bi (y_mI m1 a0 4)] m1) (fun v2 m2 => if ¬ z_w v2 = 59 then y_R sp ph d 192 391 [some (y_bo 11 0 a0), none] [] m2 else y_R sp ph d 192 400 [none, none] [] (y_sI m2 a0 4 ((y_mI m2 a0 4) + 1))) (fun e m1 => y_px e m1)) (fun e m1 => y_px e m1) := by
  rw [y_R_eq (md := z_md_192) rfl rfl]
  exact (y_bVc fun m1 => (y_sh (L' := [some (y_bo 11 0 a0), none]) (S' := []) rfl rfl (y_bIc fun v2 m2 => (y_sh (L' := [some (y_bo 11 0 a0), none]) (S' := [y_bi v2]) rfl rfl rfl))))
set_option maxRecDepth 4000 in
theorem y_E_192_391 (d : Nat) (a0 : Nat) (m : y_m) : y_R sp ph d 192 391 [some (y_bo 11 0 a0), none] [] m = y_bV (y_V sp ph d 184 [y_bo 11 0 a0, y_bi 1, y_bi (y_mI m a0 4)] m) (fun m1 => y_R sp ph d 192 400 [none, none] [] m1) (fun e m1 => y_px e m1) := by
  rw [y_R_eq (md := z_md_192) rfl rfl]
  exact (y_bVc fun m1 => (y_sh (L' := [some (y_bo 11 0 a0), none]) (S' := []) rfl rfl rfl))
set_option maxRecDepth 4000 in
theorem y_E_192_400 (d : Nat) (m : y_m) : y_R sp ph d 192 400 [none, none] [] m = y_rV m := (y_R_eq (md := z_md_192) rfl rfl).trans rfl
set_option maxRecDepth 4000 in
theorem y_C_192 (d : Nat) (a0 : Nat) (m : y_m) : y_V sp ph (d + 1) 192 [y_bo 11 0 a0] m = y_R sp ph d 192 0 [some (y_bo 11 0 a0), none] [] m := (y_V_eq (md := z_md_192) rfl rfl rfl).trans rfl
/-! LacedHolesModel.boot (I)I -/
set_option maxRecDepth 4000 in
theorem y_E_193_0 (d : Nat) (a0 : Nat) (x1 : Int) (m : y_m) : y_R sp ph d 193 0 [some (y_bo 11 0 a0), some (y_bi x1)] [] m = y_bI (y_V sp ph d 180 [y_bi x1, y_bi 0, y_bi (y_mI (y_sI m a0 0 0) a0 1)] (y_sI m a0 0 0)) (fun v1 m1 => if ¬ z_w v1 = 0 then y_R sp ph d 193 22 [some (y_bo 11 0 a0), some (y_bi x1)] [y_bo 11 0 a0] m1 else y_R sp ph d 193 23 [some (y_bo 11 0 a0), some (y_bi x1)] [y_bi 1, y_bo 11 0 a0] m1) (fun e m1 => y_px e m1) := by
  rw [y_R_eq (md := z_md_193) rfl rfl]
  exact (y_bIc fun v1 m1 => (y_sh (L' := [some (y_bo 11 0 a0), some (y_bi x1)]) (S' := [y_bi v1, y_bo 11 0 a0]) rfl rfl rfl))
set_option maxRecDepth 4000 in
theorem y_E_193_22 (d : Nat) (a0 : Nat) (x1 : Int) (as0 : Nat) (m : y_m) : y_R sp ph d 193 22 [some (y_bo 11 0 a0), some (y_bi x1)] [y_bo 11 0 as0] m = y_R sp ph d 193 23 [some (y_bo 11 0 a0), some (y_bi x1)] [y_bi 0, y_bo 11 0 as0] m := (y_R_eq (md := z_md_193) rfl rfl).trans rfl
set_option maxRecDepth 4000 in
theorem y_E_193_23 (d : Nat) (a0 : Nat) (x1 : Int) (xs0 : Int) (as1 : Nat) (m : y_m) : y_R sp ph d 193 23 [some (y_bo 11 0 a0), some (y_bi x1)] [y_bi xs0, y_bo 11 0 as1] m = y_bI (y_V sp ph d 179 [y_bo 11 0 as1, y_bi xs0, y_bi 1] m) (fun v1 m1 => if z_w v1 = 0 then y_R sp ph d 193 32 [some (y_bo 11 0 a0), some (y_bi x1)] [] m1 else y_rI 0 m1) (fun e m1 => y_px e m1) := by
  rw [y_R_eq (md := z_md_193) rfl rfl]
  exact (y_bIc fun v1 m1 => (y_sh (L' := [some (y_bo 11 0 a0), some (y_bi x1)]) (S' := [y_bi v1]) rfl rfl rfl))
set_option maxRecDepth 4000 in
theorem y_E_193_32 (d : Nat) (a0 : Nat) (x1 : Int) (m : y_m) : y_R sp ph d 193 32 [some (y_bo 11 0 a0), some (y_bi x1)] [] m = y_bV (y_V sp ph d 191 [y_bo 11 0 a0, y_bi x1] m) (fun m1 => y_bV (y_V sp ph d 177 [y_bo 11 0 a0] m1) (fun m2 => y_R sp ph d 193 41 [some (y_bo 11 0 a0), none] [] m2) (fun e m1 => y_px e m1)) (fun e m1 => y_px e m1) := by
  rw [y_R_eq (md := z_md_193) rfl rfl]
  exact (y_bVc fun m1 => (y_sh (L' := [some (y_bo 11 0 a0), some (y_bi x1)]) (S' := []) rfl rfl (y_bVc fun m2 => (y_sh (L' := [some (y_bo 11 0 a0), some (y_bi x1)]) (S' := []) rfl rfl rfl))))
set_option maxRecDepth 4000 in
theorem y_E_193_41 (d : Nat) (a0 : Nat) (m : y_m) : y_R sp ph d 193 41 [some (y_bo 11 0 a0), none] [] m = if ¬ z_w (y_mI m a0 5) = 0 then y_R sp ph d 193 70 [some (y_bo 11 0 a0), none] [] m else if z_w (y_mI m a0 2) ≤ z_w (y_mI m a0 4) then y_R sp ph d 193 70 [some (y_bo 11 0 a0), none] [] m else y_bV (y_V sp ph d 192 [y_bo 11 0 a0] m) (fun m1 => y_bV (y_V sp ph d 183 [y_bo 11 0 a0] m1) (fun m2 => y_R sp ph d 193 41 [some (y_bo 11 0 a0), none] [] m2) (fun e m1 => y_px e m1)) (fun e m1 => y_px e m1) := by
  rw [y_R_eq (md := z_md_193) rfl rfl]
  exact (y_ic rfl (y_ic rfl (y_bVc fun m1 => (y_sh (L' := [some (y_bo 11 0 a0), none]) (S' := []) rfl rfl (y_bVc fun m2 => (y_sh (L' := [some (y_bo 11 0 a0), none]) (S' := []) rfl rfl rfl))))))
set_option maxRecDepth 4000 in
theorem y_E_193_70 (d : Nat) (a0 : Nat) (m : y_m) : y_R sp ph d 193 70 [some (y_bo 11 0 a0), none] [] m = if z_w (y_mI (y_sI m a0 3 (y_mI m a0 6)) a0 5) = 0 then y_R sp ph d 193 93 [some (y_bo 11 0 a0), none] [] (y_sI m a0 3 (y_mI m a0 6)) else y_rI ((y_mI (y_sI m a0 3 (y_mI m a0 6)) a0 5) - 10) (y_sI m a0 3 (y_mI m a0 6)) := (y_R_eq (md := z_md_193) rfl rfl).trans rfl
set_option maxRecDepth 4000 in
theorem y_E_193_93 (d : Nat) (a0 : Nat) (m : y_m) : y_R sp ph d 193 93 [some (y_bo 11 0 a0), none] [] m = y_bV (y_V sp ph d 194 [y_bo 11 0 a0] m) (fun m1 => y_bI (y_V sp ph d 200 [y_bo 11 0 a0] m1) (fun v2 m2 => y_bI (y_V sp ph d 201 [y_bi v2] m2) (fun v3 m3 => y_rI v3 m3) (fun e m1 => y_px e m1)) (fun e m1 => y_px e m1)) (fun e m1 => y_px e m1) := by
  rw [y_R_eq (md := z_md_193) rfl rfl]
  exact (y_bVc fun m1 => (y_sh (L' := [some (y_bo 11 0 a0), none]) (S' := []) rfl rfl (y_bIc fun v2 m2 => (y_sh (L' := [some (y_bo 11 0 a0), none]) (S' := [y_bi v2]) rfl rfl (y_bIc fun v3 m3 => (y_sh (L' := [some (y_bo 11 0 a0), none]) (S' := [y_bi v3]) rfl rfl rfl))))))
set_option maxRecDepth 4000 in
theorem y_C_193 (d : Nat) (a0 : Nat) (x1 : Int) (m : y_m) : y_V sp ph (d + 1) 193 [y_bo 11 0 a0, y_bi x1] m = y_R sp ph d 193 0 [some (y_bo 11 0 a0), some (y_bi x1)] [] m := (y_V_eq (md := z_md_193) rfl rfl rfl).trans rfl
/-! LacedHolesModel.stands ()V -/
set_option maxRecDepth 4000 in
theorem y_E_194_0 (d : Nat) (a0 : Nat) (m : y_m) : y_R sp ph d 194 0 [some (y_bo 11 0 a0), none] [] m = y_R sp ph d 194 2 [some (y_bo 11 0 a0), some (y_bi 0)] [] m := (y_R_eq (md := z_md_194) rfl rfl).trans rfl
set_option maxRecDepth 4000 in
theorem y_E_194_2 (d : Nat) (a0 : Nat) (x1 : Int) (m : y_m) : y_R sp ph d 194 2 [some (y_bo 11 0 a0), some (y_bi x1)] [] m = if 7 ≤ z_w x1 then y_R sp ph d 194 26 [some (y_bo 11 0 a0), none] [] m else y_g (0 ≤ x1 ∧ x1 < (7 : Int)) (y_g (0 ≤ x1 ∧ x1 < (7 : Int)) (y_R sp ph d 194 2 [some (y_bo 11 0 a0), some (y_bi (x1 + 1))] [] (y_sI m 52 x1.toNat (y_mI m 51 x1.toNat)))) := (y_R_eq (md := z_md_194) rfl rfl).trans rfl
set_option maxRecDepth 4000 in
theorem y_E_194_26 (d : Nat) (a0 : Nat) (m : y_m) : y_R sp ph d 194 26 [some (y_bo 11 0 a0), none] [] m = y_R sp ph d 194 48 [some (y_bo 11 0 a0), some (y_bi 1)] [] (y_sI (y_sI (y_sI (y_sI m a0 13 0) a0 14 0) a0 15 0) a0 16 0) := (y_R_eq (md := z_md_194) rfl rfl).trans rfl
set_option maxRecDepth 4000 in
theorem y_E_194_48 (d : Nat) (a0 : Nat) (x1 : Int) (m : y_m) : y_R sp ph d 194 48 [some (y_bo 11 0 a0), some (y_bi x1)] [] m = if 5 < z_w x1 then y_R sp ph d 194 64 [none, none] [] m else y_bV (y_V sp ph d 202 [y_bo 11 0 a0, y_bi x1] m) (fun m1 => y_R sp ph d 194 48 [some (y_bo 11 0 a0), some (y_bi (x1 + 1))] [] m1) (fun e m1 => y_px e m1) := by
  rw [y_R_eq (md := z_md_194) rfl rfl]
  exact (y_ic rfl (y_bVc fun m1 => (y_sh (L' := [some (y_bo 11 0 a0), some (y_bi x1)]) (S' := []) rfl rfl rfl)))
set_option maxRecDepth 4000 in
theorem y_E_194_64 (d : Nat) (m : y_m) : y_R sp ph d 194 64 [none, none] [] m = y_rV m := (y_R_eq (md := z_md_194) rfl rfl).trans rfl
set_option maxRecDepth 4000 in
theorem y_C_194 (d : Nat) (a0 : Nat) (m : y_m) : y_V sp ph (d + 1) 194 [y_bo 11 0 a0] m = y_R sp ph d 194 0 [some (y_bo 11 0 a0), none] [] m := (y_V_eq (md := z_md_194) rfl rfl rfl).trans rfl
/-! LacedHolesModel.way (I)I -/
set_option maxRecDepth 4000 in
theorem y_E_195_0 (d : Nat) (a0 : Nat) (x1 : Int) (m : y_m) : y_R sp ph d 195 0 [some (y_bo 11 0 a0), some (y_bi x1), none, none, none, none] [] m = y_bI (y_V sp ph d 180 [y_bi x1, y_bi 0, y_bi (y_mI (y_sI m a0 0 0) a0 1)] (y_sI m a0 0 0)) (fun v1 m1 => if z_w v1 = 0 then y_R sp ph d 195 24 [some (y_bo 11 0 a0), some (y_bi x1), none, none, none, none] [y_bo 11 0 a0] m1 else if z_w x1 ≤ 100 then y_R sp ph d 195 28 [some (y_bo 11 0 a0), some (y_bi x1), none, none, none, none] [y_bo 11 0 a0] m1 else y_R sp ph d 195 24 [some (y_bo 11 0 a0), some (y_bi x1), none, none, none, none] [y_bo 11 0 a0] m1) (fun e m1 => y_px e m1) := by
  rw [y_R_eq (md := z_md_195) rfl rfl]
  exact (y_bIc fun v1 m1 => (y_sh (L' := [some (y_bo 11 0 a0), some (y_bi x1), none, none, none, none]) (S' := [y_bi v1, y_bo 11 0 a0]) rfl rfl rfl))
set_option maxRecDepth 4000 in
theorem y_E_195_24 (d : Nat) (a0 : Nat) (x1 : Int) (as0 : Nat) (m : y_m) : y_R sp ph d 195 24 [some (y_bo 11 0 a0), some (y_bi x1), none, none, none, none] [y_bo 11 0 as0] m = y_R sp ph d 195 29 [some (y_bo 11 0 a0), some (y_bi x1), none, none, none, none] [y_bi 1, y_bo 11 0 as0] m := (y_R_eq (md := z_md_195) rfl rfl).trans rfl
set_option maxRecDepth 4000 in
theorem y_E_195_28 (d : Nat) (a0 : Nat) (x1 : Int) (as0 : Nat) (m : y_m) : y_R sp ph d 195 28 [some (y_bo 11 0 a0), some (y_bi x1), none, none, none, none] [y_bo 11 0 as0] m = y_R sp ph d 195 29 [some (y_bo 11 0 a0), some (y_bi x1), none, none, none, none] [y_bi 0, y_bo 11 0 as0] m := (y_R_eq (md := z_md_195) rfl rfl).trans rfl
set_option maxRecDepth 4000 in
theorem y_E_195_29 (d : Nat) (a0 : Nat) (x1 : Int) (xs0 : Int) (as1 : Nat) (m : y_m) : y_R sp ph d 195 29 [some (y_bo 11 0 a0), some (y_bi x1), none, none, none, none] [y_bi xs0, y_bo 11 0 as1] m = y_bI (y_V sp ph d 179 [y_bo 11 0 as1, y_bi xs0, y_bi 1] m) (fun v1 m1 => if z_w v1 = 0 then y_R sp ph d 195 38 [some (y_bo 11 0 a0), some (y_bi x1), none, none, none, none] [] m1 else y_rI 0 m1) (fun e m1 => y_px e m1) := by
  rw [y_R_eq (md := z_md_195) rfl rfl]
  exact (y_bIc fun v1 m1 => (y_sh (L' := [some (y_bo 11 0 a0), some (y_bi x1), none, none, none, none]) (S' := [y_bi v1]) rfl rfl rfl))
set_option maxRecDepth 4000 in
theorem y_E_195_38 (d : Nat) (a0 : Nat) (x1 : Int) (m : y_m) : y_R sp ph d 195 38 [some (y_bo 11 0 a0), some (y_bi x1), none, none, none, none] [] m = y_bV (y_V sp ph d 191 [y_bo 11 0 a0, y_bi x1] m) (fun m1 => y_R sp ph d 195 53 [some (y_bo 11 0 a0), none, some (y_bi 0), some (y_bi (y_mI m1 52 6)), none, none] [] m1) (fun e m1 => y_px e m1) := by
  rw [y_R_eq (md := z_md_195) rfl rfl]
  exact (y_bVc fun m1 => (y_sh (L' := [some (y_bo 11 0 a0), some (y_bi x1), none, none, none, none]) (S' := []) rfl rfl rfl))
set_option maxRecDepth 4000 in
theorem y_E_195_53 (d : Nat) (a0 : Nat) (x2 : Int) (x3 : Int) (m : y_m) : y_R sp ph d 195 53 [some (y_bo 11 0 a0), none, some (y_bi x2), some (y_bi x3), none, none] [] m = if ¬ z_w (y_mI m a0 5) = 0 then y_R sp ph d 195 222 [some (y_bo 11 0 a0), none, some (y_bi x2), none, none, none] [] m else if z_w (y_mI m a0 2) ≤ z_w (y_mI m a0 4) then y_R sp ph d 195 222 [some (y_bo 11 0 a0), none, some (y_bi x2), none, none, none] [] m else y_bI (y_V sp ph d 182 [y_bo 11 0 a0, y_bi (y_mI m a0 4)] m) (fun v1 m1 => y_bI (y_V sp ph d 185 [y_bi v1] m1) (fun v2 m2 => if ¬ z_w v2 = 0 then y_R sp ph d 195 100 [some (y_bo 11 0 a0), none, some (y_bi x2), some (y_bi x3), some (y_bi (y_mI m a0 4)), none] [] m2 else y_bV (y_V sp ph d 184 [y_bo 11 0 a0, y_bi 1, y_bi (y_mI m2 a0 4)] m2) (fun m3 => y_R sp ph d 195 100 [some (y_bo 11 0 a0), none, some (y_bi x2), some (y_bi x3), some (y_bi (y_mI m a0 4)), none] [] m3) (fun e m1 => y_px e m1)) (fun e m1 => y_px e m1)) (fun e m1 => y_px e m1) := by
  rw [y_R_eq (md := z_md_195) rfl rfl]
  exact (y_ic rfl (y_ic rfl (y_bIc fun v1 m1 => (y_sh (L' := [some (y_bo 11 0 a0), none, some (y_bi x2), some (y_bi x3), some (y_bi (y_mI m a0 4)), none]) (S' := [y_bi v1]) rfl rfl (y_bIc fun v2 m2 => (y_sh (L' := [some (y_bo 11 0 a0), none, some (y_bi x2), some (y_bi x3), some (y_bi (y_mI m a0 4)), none]) (S' := [y_bi v2]) rfl rfl (y_ic rfl (y_bVc fun m3 => (y_sh (L' := [some (y_bo 11 0 a0), none, some (y_bi x2), some (y_bi x3), some (y_bi (y_mI m a0 4)), none]) (S' := []) rfl rfl rfl)))))))))
set_option maxRecDepth 4000 in
theorem y_E_195_100 (d : Nat) (a0 : Nat) (x2 : Int) (x3 : Int) (x4 : Int) (m : y_m) : y_R sp ph d 195 100 [some (y_bo 11 0 a0), none, some (y_bi x2), some (y_bi x3), some (y_bi x4), none] [] m = y_bI (y_V sp ph d 186 [y_bo 11 0 a0] m) (fun v1 m1 => y_bI (y_V sp ph d 199 [y_bo 11 0 a0] m1) (fun v2 m2 => y_bI (y_V sp ph d 180 [y_bi v1, y_bi 0, y_bi (v2 - 1)] m2) (fun v3 m3 => if z_w v3 = 0 then y_R sp ph d 195 131 [some (y_bo 11 0 a0), none, some (y_bi x2), some (y_bi x3), some (y_bi x4), some (y_bi v1)] [] m3 else if ¬ z_w (z_iand (z_ishr x3 v1) 1) = 1 then y_R sp ph d 195 141 [some (y_bo 11 0 a0), none, some (y_bi x2), some (y_bi x3), some (y_bi x4), some (y_bi v1)] [] m3 else y_R sp ph d 195 131 [some (y_bo 11 0 a0), none, some (y_bi x2), some (y_bi x3), some (y_bi x4), some (y_bi v1)] [] m3) (fun e m1 => y_px e m1)) (fun e m1 => y_px e m1)) (fun e m1 => y_px e m1) := by
  rw [y_R_eq (md := z_md_195) rfl rfl]
  exact (y_bIc fun v1 m1 => (y_sh (L' := [some (y_bo 11 0 a0), none, some (y_bi x2), some (y_bi x3), some (y_bi x4), none]) (S' := [y_bi v1]) rfl rfl (y_bIc fun v2 m2 => (y_sh (L' := [some (y_bo 11 0 a0), none, some (y_bi x2), some (y_bi x3), some (y_bi x4), some (y_bi v1)]) (S' := [y_bi v2, y_bi 0, y_bi v1]) rfl rfl (y_bIc fun v3 m3 => (y_sh (L' := [some (y_bo 11 0 a0), none, some (y_bi x2), some (y_bi x3), some (y_bi x4), some (y_bi v1)]) (S' := [y_bi v3]) rfl rfl rfl))))))
set_option maxRecDepth 4000 in
theorem y_E_195_131 (d : Nat) (a0 : Nat) (x2 : Int) (x3 : Int) (x4 : Int) (x5 : Int) (m : y_m) : y_R sp ph d 195 131 [some (y_bo 11 0 a0), none, some (y_bi x2), some (y_bi x3), some (y_bi x4), some (y_bi x5)] [] m = y_bV (y_V sp ph d 184 [y_bo 11 0 a0, y_bi 2, y_bi x4] m) (fun m1 => y_R sp ph d 195 154 [some (y_bo 11 0 a0), none, some (y_bi x2), some (y_bi x3), none, some (y_bi x5)] [] m1) (fun e m1 => y_px e m1) := by
  rw [y_R_eq (md := z_md_195) rfl rfl]
  exact (y_bVc fun m1 => (y_sh (L' := [some (y_bo 11 0 a0), none, some (y_bi x2), some (y_bi x3), some (y_bi x4), some (y_bi x5)]) (S' := []) rfl rfl rfl))
set_option maxRecDepth 4000 in
theorem y_E_195_141 (d : Nat) (a0 : Nat) (x2 : Int) (x3 : Int) (x4 : Int) (x5 : Int) (m : y_m) : y_R sp ph d 195 141 [some (y_bo 11 0 a0), none, some (y_bi x2), some (y_bi x3), some (y_bi x4), some (y_bi x5)] [] m = if ¬ z_w x2 = 12 then y_R sp ph d 195 154 [some (y_bo 11 0 a0), none, some (y_bi x2), some (y_bi x3), none, some (y_bi x5)] [] m else y_bV (y_V sp ph d 184 [y_bo 11 0 a0, y_bi 3, y_bi x4] m) (fun m1 => y_R sp ph d 195 154 [some (y_bo 11 0 a0), none, some (y_bi x2), some (y_bi x3), none, some (y_bi x5)] [] m1) (fun e m1 => y_px e m1) := by
  rw [y_R_eq (md := z_md_195) rfl rfl]
  exact (y_ic rfl (y_bVc fun m1 => (y_sh (L' := [some (y_bo 11 0 a0), none, some (y_bi x2), some (y_bi x3), some (y_bi x4), some (y_bi x5)]) (S' := []) rfl rfl rfl)))
set_option maxRecDepth 4000 in
theorem y_E_195_154 (d : Nat) (a0 : Nat) (x2 : Int) (x3 : Int) (x5 : Int) (m : y_m) : y_R sp ph d 195 154 [some (y_bo 11 0 a0), none, some (y_bi x2), some (y_bi x3), none, some (y_bi x5)] [] m = if z_w (y_mI m a0 5) = 0 then y_R sp ph d 195 164 [some (y_bo 11 0 a0), none, some (y_bi x2), some (y_bi x3), none, some (y_bi x5)] [] m else y_R sp ph d 195 222 [some (y_bo 11 0 a0), none, some (y_bi x2), none, none, none] [] m := (y_R_eq (md := z_md_195) rfl rfl).trans rfl
set_option maxRecDepth 4000 in
theorem y_E_195_164 (d : Nat) (a0 : Nat) (x2 : Int) (x3 : Int) (x5 : Int) (m : y_m) : y_R sp ph d 195 164 [some (y_bo 11 0 a0), none, some (y_bi x2), some (y_bi x3), none, some (y_bi x5)] [] m = y_g (0 ≤ x2 ∧ x2 < (12 : Int)) (if z_w (y_mI (y_sI m 53 x2.toNat x5) a0 2) ≤ z_w (y_mI (y_sI m 53 x2.toNat x5) a0 4) then y_R sp ph d 195 215 [some (y_bo 11 0 a0), none, some (y_bi (x2 + 1)), some (y_bi (z_ior x3 (z_ishl 1 x5))), none, none] [] (y_sI m 53 x2.toNat x5) else y_bI (y_V sp ph d 182 [y_bo 11 0 a0, y_bi (y_mI (y_sI m 53 x2.toNat x5) a0 4)] (y_sI m 53 x2.toNat x5)) (fun v1 m1 => if z_w v1 = 32 then y_R sp ph d 195 215 [some (y_bo 11 0 a0), none, some (y_bi (x2 + 1)), some (y_bi (z_ior x3 (z_ishl 1 x5))), none, none] [] m1 else y_bV (y_V sp ph d 184 [y_bo 11 0 a0, y_bi 1, y_bi (y_mI m1 a0 4)] m1) (fun m2 => y_R sp ph d 195 215 [some (y_bo 11 0 a0), none, some (y_bi (x2 + 1)), some (y_bi (z_ior x3 (z_ishl 1 x5))), none, none] [] m2) (fun e m1 => y_px e m1)) (fun e m1 => y_px e m1)) := by
  rw [y_R_eq (md := z_md_195) rfl rfl]
  exact (y_gc (y_ic rfl (y_bIc fun v1 m1 => (y_sh (L' := [some (y_bo 11 0 a0), none, some (y_bi (x2 + 1)), some (y_bi (z_ior x3 (z_ishl 1 x5))), none, some (y_bi x5)]) (S' := [y_bi v1]) rfl rfl (y_ic rfl (y_bVc fun m2 => (y_sh (L' := [some (y_bo 11 0 a0), none, some (y_bi (x2 + 1)), some (y_bi (z_ior x3 (z_ishl 1 x5))), none, some (y_bi x5)]) (S' := []) rfl rfl rfl)))))))
set_option maxRecDepth 4000 in
theorem y_E_195_215 (d : Nat) (a0 : Nat) (x2 : Int) (x3 : Int) (m : y_m) : y_R sp ph d 195 215 [some (y_bo 11 0 a0), none, some (y_bi x2), some (y_bi x3), none, none] [] m = y_bV (y_V sp ph d 183 [y_bo 11 0 a0] m) (fun m1 => y_R sp ph d 195 53 [some (y_bo 11 0 a0), none, some (y_bi x2), some (y_bi x3), none, none] [] m1) (fun e m1 => y_px e m1) := by
  rw [y_R_eq (md := z_md_195) rfl rfl]
  exact (y_bVc fun m1 => (y_sh (L' := [some (y_bo 11 0 a0), none, some (y_bi x2), some (y_bi x3), none, none]) (S' := []) rfl rfl rfl))
set_option maxRecDepth 4000 in
theorem y_E_195_222 (d : Nat) (a0 : Nat) (x2 : Int) (m : y_m) : y_R sp ph d 195 222 [some (y_bo 11 0 a0), none, some (y_bi x2), none, none, none] [] m = if ¬ z_w (y_mI m a0 5) = 0 then y_R sp ph d 195 243 [some (y_bo 11 0 a0), none, some (y_bi x2), none, none, none] [] m else if 3 ≤ z_w x2 then y_R sp ph d 195 243 [some (y_bo 11 0 a0), none, some (y_bi x2), none, none, none] [] m else y_bV (y_V sp ph d 184 [y_bo 11 0 a0, y_bi 4, y_bi (y_mI m a0 2)] m) (fun m1 => y_R sp ph d 195 243 [some (y_bo 11 0 a0), none, some (y_bi x2), none, none, none] [] m1) (fun e m1 => y_px e m1) := by
  rw [y_R_eq (md := z_md_195) rfl rfl]
  exact (y_ic rfl (y_ic rfl (y_bVc fun m1 => (y_sh (L' := [some (y_bo 11 0 a0), none, some (y_bi x2), none, none, none]) (S' := []) rfl rfl rfl))))
set_option maxRecDepth 4000 in
theorem y_E_195_243 (d : Nat) (a0 : Nat) (x2 : Int) (m : y_m) : y_R sp ph d 195 243 [some (y_bo 11 0 a0), none, some (y_bi x2), none, none, none] [] m = if z_w (y_mI (y_sI m a0 3 (y_mI m a0 6)) a0 5) = 0 then y_R sp ph d 195 266 [some (y_bo 11 0 a0), none, some (y_bi x2), none, none, none] [] (y_sI m a0 3 (y_mI m a0 6)) else y_rI ((y_mI (y_sI m a0 3 (y_mI m a0 6)) a0 5) - 10) (y_sI m a0 3 (y_mI m a0 6)) := (y_R_eq (md := z_md_195) rfl rfl).trans rfl
set_option maxRecDepth 4000 in
theorem y_E_195_266 (d : Nat) (a0 : Nat) (x2 : Int) (m : y_m) : y_R sp ph d 195 266 [some (y_bo 11 0 a0), none, some (y_bi x2), none, none, none] [] m = y_bV (y_V sp ph d 196 [y_bo 11 0 a0, y_bo 100 12 53, y_bi x2] m) (fun m1 => y_rI x2 m1) (fun e m1 => y_px e m1) := by
  rw [y_R_eq (md := z_md_195) rfl rfl]
  exact (y_bVc fun m1 => (y_sh (L' := [some (y_bo 11 0 a0), none, some (y_bi x2), none, none, none]) (S' := []) rfl rfl rfl))
set_option maxRecDepth 4000 in
theorem y_C_195 (d : Nat) (a0 : Nat) (x1 : Int) (m : y_m) : y_V sp ph (d + 1) 195 [y_bo 11 0 a0, y_bi x1] m = y_R sp ph d 195 0 [some (y_bo 11 0 a0), some (y_bi x1), none, none, none, none] [] m := (y_V_eq (md := z_md_195) rfl rfl rfl).trans rfl
/-! LacedHolesModel.takesWay ([II)V -/
set_option maxRecDepth 4000 in
theorem y_E_196_0 (d : Nat) (a0 : Nat) (a1 : Nat) (n1 : Nat) (x2 : Int) (m : y_m) : y_R sp ph d 196 0 [some (y_bo 11 0 a0), some (y_bo 100 n1 a1), some (y_bi x2), none] [] m = y_R sp ph d 196 2 [some (y_bo 11 0 a0), some (y_bo 100 n1 a1), some (y_bi x2), some (y_bi 0)] [] m := (y_R_eq (md := z_md_196) rfl rfl).trans rfl
set_option maxRecDepth 4000 in
theorem y_E_196_2 (d : Nat) (a0 : Nat) (a1 : Nat) (n1 : Nat) (x2 : Int) (x3 : Int) (m : y_m) : y_R sp ph d 196 2 [some (y_bo 11 0 a0), some (y_bo 100 n1 a1), some (y_bi x2), some (y_bi x3)] [] m = if z_w x2 ≤ z_w x3 then y_R sp ph d 196 22 [some (y_bo 11 0 a0), none, some (y_bi x2), none] [] m else y_g (0 ≤ x3 ∧ x3 < (n1 : Int)) (y_g (0 ≤ x3 ∧ x3 < (12 : Int)) (y_R sp ph d 196 2 [some (y_bo 11 0 a0), some (y_bo 100 n1 a1), some (y_bi x2), some (y_bi (x3 + 1))] [] (y_sI m 54 x3.toNat (y_mI m a1 x3.toNat)))) := (y_R_eq (md := z_md_196) rfl rfl).trans rfl
set_option maxRecDepth 4000 in
theorem y_E_196_22 (d : Nat) (a0 : Nat) (x2 : Int) (m : y_m) : y_R sp ph d 196 22 [some (y_bo 11 0 a0), none, some (y_bi x2), none] [] m = y_rV (y_sI m a0 13 x2) := (y_R_eq (md := z_md_196) rfl rfl).trans rfl
set_option maxRecDepth 4000 in
theorem y_C_196 (d : Nat) (a0 : Nat) (a1 : Nat) (n1 : Nat) (x2 : Int) (m : y_m) : y_V sp ph (d + 1) 196 [y_bo 11 0 a0, y_bo 100 n1 a1, y_bi x2] m = y_R sp ph d 196 0 [some (y_bo 11 0 a0), some (y_bo 100 n1 a1), some (y_bi x2), none] [] m := (y_V_eq (md := z_md_196) rfl rfl rfl).trans rfl
/-! LacedHolesModel.fault ()I -/
set_option maxRecDepth 4000 in
theorem y_E_197_0 (d : Nat) (a0 : Nat) (m : y_m) : y_R sp ph d 197 0 [some (y_bo 11 0 a0)] [] m = y_rI (y_mI (y_sI m a0 0 0) a0 3) (y_sI m a0 0 0) := (y_R_eq (md := z_md_197) rfl rfl).trans rfl
set_option maxRecDepth 4000 in
theorem y_C_197 (d : Nat) (a0 : Nat) (m : y_m) : y_V sp ph (d + 1) 197 [y_bo 11 0 a0] m = y_R sp ph d 197 0 [some (y_bo 11 0 a0)] [] m := (y_V_eq (md := z_md_197) rfl rfl rfl).trans rfl
/-! LacedHolesModel.told (I)I -/
set_option maxRecDepth 4000 in
theorem y_E_198_0 (d : Nat) (a0 : Nat) (x1 : Int) (m : y_m) : y_R sp ph d 198 0 [some (y_bo 11 0 a0), some (y_bi x1)] [] m = y_bI (y_V sp ph d 180 [y_bi x1, y_bi 0, y_bi 7] (y_sI m a0 0 0)) (fun v1 m1 => if ¬ z_w v1 = 0 then y_R sp ph d 198 20 [some (y_bo 11 0 a0), some (y_bi x1)] [y_bo 11 0 a0] m1 else y_R sp ph d 198 21 [some (y_bo 11 0 a0), some (y_bi x1)] [y_bi 1, y_bo 11 0 a0] m1) (fun e m1 => y_px e m1) := by
  rw [y_R_eq (md := z_md_198) rfl rfl]
  exact (y_bIc fun v1 m1 => (y_sh (L' := [some (y_bo 11 0 a0), some (y_bi x1)]) (S' := [y_bi v1, y_bo 11 0 a0]) rfl rfl rfl))
set_option maxRecDepth 4000 in
theorem y_E_198_20 (d : Nat) (a0 : Nat) (x1 : Int) (as0 : Nat) (m : y_m) : y_R sp ph d 198 20 [some (y_bo 11 0 a0), some (y_bi x1)] [y_bo 11 0 as0] m = y_R sp ph d 198 21 [some (y_bo 11 0 a0), some (y_bi x1)] [y_bi 0, y_bo 11 0 as0] m := (y_R_eq (md := z_md_198) rfl rfl).trans rfl
set_option maxRecDepth 4000 in
theorem y_E_198_21 (d : Nat) (a0 : Nat) (x1 : Int) (xs0 : Int) (as1 : Nat) (m : y_m) : y_R sp ph d 198 21 [some (y_bo 11 0 a0), some (y_bi x1)] [y_bi xs0, y_bo 11 0 as1] m = y_bI (y_V sp ph d 179 [y_bo 11 0 as1, y_bi xs0, y_bi 1] m) (fun v1 m1 => if z_w v1 = 0 then y_R sp ph d 198 30 [some (y_bo 11 0 a0), some (y_bi x1)] [] m1 else y_rI 0 m1) (fun e m1 => y_px e m1) := by
  rw [y_R_eq (md := z_md_198) rfl rfl]
  exact (y_bIc fun v1 m1 => (y_sh (L' := [some (y_bo 11 0 a0), some (y_bi x1)]) (S' := [y_bi v1]) rfl rfl rfl))
set_option maxRecDepth 4000 in
theorem y_E_198_30 (d : Nat) (a0 : Nat) (x1 : Int) (m : y_m) : y_R sp ph d 198 30 [some (y_bo 11 0 a0), some (y_bi x1)] [] m = if 7 ≤ z_w x1 then y_R sp ph d 198 45 [some (y_bo 11 0 a0), none] [] m else y_g (0 ≤ x1 ∧ x1 < (7 : Int)) (y_R sp ph d 198 49 [none, none] [y_bi (y_mI m 52 x1.toNat)] m) := (y_R_eq (md := z_md_198) rfl rfl).trans rfl
set_option maxRecDepth 4000 in
theorem y_E_198_45 (d : Nat) (a0 : Nat) (m : y_m) : y_R sp ph d 198 45 [some (y_bo 11 0 a0), none] [] m = y_R sp ph d 198 49 [none, none] [y_bi (y_mI m a0 13)] m := (y_R_eq (md := z_md_198) rfl rfl).trans rfl
set_option maxRecDepth 4000 in
theorem y_E_198_49 (d : Nat) (xs0 : Int) (m : y_m) : y_R sp ph d 198 49 [none, none] [y_bi xs0] m = y_rI xs0 m := (y_R_eq (md := z_md_198) rfl rfl).trans rfl
set_option maxRecDepth 4000 in
theorem y_C_198 (d : Nat) (a0 : Nat) (x1 : Int) (m : y_m) : y_V sp ph (d + 1) 198 [y_bo 11 0 a0, y_bi x1] m = y_R sp ph d 198 0 [some (y_bo 11 0 a0), some (y_bi x1)] [] m := (y_V_eq (md := z_md_198) rfl rfl rfl).trans rfl
/-! LacedHolesModel.holes ()I -/
set_option maxRecDepth 4000 in
theorem y_E_199_0 (d : Nat) (a0 : Nat) (m : y_m) : y_R sp ph d 199 0 [some (y_bo 11 0 a0)] [] m = y_rI ((y_mI m 52 0) + (y_mI m 52 1)) m := (y_R_eq (md := z_md_199) rfl rfl).trans rfl
set_option maxRecDepth 4000 in
theorem y_C_199 (d : Nat) (a0 : Nat) (m : y_m) : y_V sp ph (d + 1) 199 [y_bo 11 0 a0] m = y_R sp ph d 199 0 [some (y_bo 11 0 a0)] [] m := (y_V_eq (md := z_md_199) rfl rfl rfl).trans rfl
/-! LacedHolesModel.sound ()I -/
set_option maxRecDepth 4000 in
theorem y_E_200_0 (d : Nat) (a0 : Nat) (m : y_m) : y_R sp ph d 200 0 [some (y_bo 11 0 a0)] [] m = y_bI (y_V sp ph d 199 [y_bo 11 0 a0] m) (fun v1 m1 => y_rI (z_iand ((z_ishl 1 v1) - 1) (z_ixor (y_mI m1 52 6) (-1))) m1) (fun e m1 => y_px e m1) := by
  rw [y_R_eq (md := z_md_200) rfl rfl]
  exact (y_bIc fun v1 m1 => (y_sh (L' := [some (y_bo 11 0 a0)]) (S' := [y_bi v1, y_bi 1]) rfl rfl rfl))
set_option maxRecDepth 4000 in
theorem y_C_200 (d : Nat) (a0 : Nat) (m : y_m) : y_V sp ph (d + 1) 200 [y_bo 11 0 a0] m = y_R sp ph d 200 0 [some (y_bo 11 0 a0)] [] m := (y_V_eq (md := z_md_200) rfl rfl rfl).trans rfl
/-! LacedHolesModel.ones (I)I -/
set_option maxRecDepth 4000 in
theorem y_E_201_0 (d : Nat) (x0 : Int) (m : y_m) : y_R sp ph d 201 0 [some (y_bi x0), none, none] [] m = y_R sp ph d 201 4 [some (y_bi x0), some (y_bi 0), some (y_bi 0)] [] m := (y_R_eq (md := z_md_201) rfl rfl).trans rfl
set_option maxRecDepth 4000 in
theorem y_E_201_4 (d : Nat) (x0 : Int) (x1 : Int) (x2 : Int) (m : y_m) : y_R sp ph d 201 4 [some (y_bi x0), some (y_bi x1), some (y_bi x2)] [] m = if 12 ≤ z_w x2 then y_R sp ph d 201 24 [none, some (y_bi x1), none] [] m else y_R sp ph d 201 4 [some (y_bi x0), some (y_bi (x1 + (z_iand (z_ishr x0 x2) 1))), some (y_bi (x2 + 1))] [] m := (y_R_eq (md := z_md_201) rfl rfl).trans rfl
set_option maxRecDepth 4000 in
theorem y_E_201_24 (d : Nat) (x1 : Int) (m : y_m) : y_R sp ph d 201 24 [none, some (y_bi x1), none] [] m = y_rI x1 m := (y_R_eq (md := z_md_201) rfl rfl).trans rfl
set_option maxRecDepth 4000 in
theorem y_C_201 (d : Nat) (x0 : Int) (m : y_m) : y_V sp ph (d + 1) 201 [y_bi x0] m = y_R sp ph d 201 0 [some (y_bi x0), none, none] [] m := (y_V_eq (md := z_md_201) rfl rfl rfl).trans rfl
/-! LacedHolesModel.laysRoot (I)V -/
set_option maxRecDepth 4000 in
theorem y_E_202_0 (d : Nat) (a0 : Nat) (x1 : Int) (m : y_m) : y_R sp ph d 202 0 [some (y_bo 11 0 a0), some (y_bi x1), none, none, none, none] [] m = y_g (0 ≤ x1 ∧ x1 < (6 : Int)) (y_g (0 ≤ x1 ∧ x1 < (6 : Int)) (y_g (0 ≤ x1 ∧ x1 < (6 : Int)) (y_R sp ph d 202 55 [some (y_bo 11 0 a0), some (y_bi x1), some (y_bi (((y_mI m 52 2) * (y_mI m 52 2)) + (((x1 * x1) * (y_mI m 52 3)) * (y_mI m 52 3)))), some (y_bi 2), none, none] [] (y_sI (y_sI (y_sI m 73 x1.toNat (((y_mI m 52 2) * (y_mI m 52 2)) + (((x1 * x1) * (y_mI m 52 3)) * (y_mI m 52 3)))) 74 x1.toNat 1) 75 x1.toNat (((y_mI m 52 2) * (y_mI m 52 2)) + (((x1 * x1) * (y_mI m 52 3)) * (y_mI m 52 3))))))) := (y_R_eq (md := z_md_202) rfl rfl).trans rfl
set_option maxRecDepth 4000 in
theorem y_E_202_55 (d : Nat) (a0 : Nat) (x1 : Int) (x2 : Int) (x3 : Int) (m : y_m) : y_R sp ph d 202 55 [some (y_bo 11 0 a0), some (y_bi x1), some (y_bi x2), some (y_bi x3), none, none] [] m = y_g (0 ≤ x1 ∧ x1 < (6 : Int)) (if z_w (y_mI m 75 x1.toNat) < z_w (x3 * x3) then y_R sp ph d 202 111 [some (y_bo 11 0 a0), some (y_bi x1), some (y_bi x2), none, none, none] [] m else y_R sp ph d 202 67 [some (y_bo 11 0 a0), some (y_bi x1), some (y_bi x2), some (y_bi x3), none, none] [] m) := (y_R_eq (md := z_md_202) rfl rfl).trans rfl
set_option maxRecDepth 4000 in
theorem y_E_202_67 (d : Nat) (a0 : Nat) (x1 : Int) (x2 : Int) (x3 : Int) (m : y_m) : y_R sp ph d 202 67 [some (y_bo 11 0 a0), some (y_bi x1), some (y_bi x2), some (y_bi x3), none, none] [] m = y_g (0 ≤ x1 ∧ x1 < (6 : Int)) (y_g (z_w (x3 * x3) ≠ 0) (if ¬ z_w (z_irem (y_mI m 75 x1.toNat) (x3 * x3)) = 0 then y_R sp ph d 202 105 [some (y_bo 11 0 a0), some (y_bi x1), some (y_bi x2), some (y_bi x3), none, none] [] m else y_g (0 ≤ x1 ∧ x1 < (6 : Int)) (y_g (z_w (x3 * x3) ≠ 0) (y_g (0 ≤ x1 ∧ x1 < (6 : Int)) (y_g (0 ≤ x1 ∧ x1 < (6 : Int)) (y_g (0 ≤ x1 ∧ x1 < (6 : Int)) (y_R sp ph d 202 67 [some (y_bo 11 0 a0), some (y_bi x1), some (y_bi x2), some (y_bi x3), none, none] [] (y_sI (y_sI m 75 x1.toNat (z_idiv (y_mI m 75 x1.toNat) (x3 * x3))) 74 x1.toNat ((y_mI (y_sI m 75 x1.toNat (z_idiv (y_mI m 75 x1.toNat) (x3 * x3))) 74 x1.toNat) * x3))))))))) := (y_R_eq (md := z_md_202) rfl rfl).trans rfl
set_option maxRecDepth 4000 in
theorem y_E_202_105 (d : Nat) (a0 : Nat) (x1 : Int) (x2 : Int) (x3 : Int) (m : y_m) : y_R sp ph d 202 105 [some (y_bo 11 0 a0), some (y_bi x1), some (y_bi x2), some (y_bi x3), none, none] [] m = y_R sp ph d 202 55 [some (y_bo 11 0 a0), some (y_bi x1), some (y_bi x2), some (y_bi (x3 + 1)), none, none] [] m := (y_R_eq (md := z_md_202) rfl rfl).trans rfl
set_option maxRecDepth 4000 in
theorem y_E_202_111 (d : Nat) (a0 : Nat) (x1 : Int) (x2 : Int) (m : y_m) : y_R sp ph d 202 111 [some (y_bo 11 0 a0), some (y_bi x1), some (y_bi x2), none, none, none] [] m = y_R sp ph d 202 113 [some (y_bo 11 0 a0), some (y_bi x1), some (y_bi x2), some (y_bi 0), none, none] [] m := (y_R_eq (md := z_md_202) rfl rfl).trans rfl
set_option maxRecDepth 4000 in
theorem y_E_202_113 (d : Nat) (a0 : Nat) (x1 : Int) (x2 : Int) (x3 : Int) (m : y_m) : y_R sp ph d 202 113 [some (y_bo 11 0 a0), some (y_bi x1), some (y_bi x2), some (y_bi x3), none, none] [] m = if z_w x2 < z_w ((x3 + 1) * (x3 + 1)) then y_R sp ph d 202 130 [some (y_bo 11 0 a0), some (y_bi x1), some (y_bi x2), some (y_bi x3), none, none] [] m else y_R sp ph d 202 113 [some (y_bo 11 0 a0), some (y_bi x1), some (y_bi x2), some (y_bi (x3 + 1)), none, none] [] m := (y_R_eq (md := z_md_202) rfl rfl).trans rfl
set_option maxRecDepth 4000 in
theorem y_E_202_130 (d : Nat) (a0 : Nat) (x1 : Int) (x2 : Int) (x3 : Int) (m : y_m) : y_R sp ph d 202 130 [some (y_bo 11 0 a0), some (y_bi x1), some (y_bi x2), some (y_bi x3), none, none] [] m = y_g (0 ≤ x1 ∧ x1 < (6 : Int)) (y_R sp ph d 202 141 [some (y_bo 11 0 a0), some (y_bi x1), some (y_bi x2), some (y_bi x3), some (y_bo 100 228 (77 + 1 * x1.toNat)), some (y_bi 0)] [] m) := (y_R_eq (md := z_md_202) rfl rfl).trans rfl
set_option maxRecDepth 4000 in
theorem y_E_202_141 (d : Nat) (a0 : Nat) (x1 : Int) (x2 : Int) (x3 : Int) (a4 : Nat) (x5 : Int) (m : y_m) : y_R sp ph d 202 141 [some (y_bo 11 0 a0), some (y_bi x1), some (y_bi x2), some (y_bi x3), some (y_bo 100 228 a4), some (y_bi x5)] [] m = if 228 ≤ z_w x5 then y_R sp ph d 202 161 [some (y_bo 11 0 a0), some (y_bi x1), some (y_bi x2), some (y_bi x3), some (y_bo 100 228 a4), none] [] m else y_g (0 ≤ x5 ∧ x5 < (228 : Int)) (y_R sp ph d 202 141 [some (y_bo 11 0 a0), some (y_bi x1), some (y_bi x2), some (y_bi x3), some (y_bo 100 228 a4), some (y_bi (x5 + 1))] [] (y_sI m a4 x5.toNat 0)) := (y_R_eq (md := z_md_202) rfl rfl).trans rfl
set_option maxRecDepth 4000 in
theorem y_E_202_161 (d : Nat) (a0 : Nat) (x1 : Int) (x2 : Int) (x3 : Int) (a4 : Nat) (m : y_m) : y_R sp ph d 202 161 [some (y_bo 11 0 a0), some (y_bi x1), some (y_bi x2), some (y_bi x3), some (y_bo 100 228 a4), none] [] m = y_bV (y_V sp ph d 203 [y_bo 11 0 a0, y_bi (x2 - (x3 * x3)), y_bi x3, y_bo 100 228 a4] (y_sI (y_sI (y_sI m a4 5 (z_idiv x3 100)) a4 6 (z_irem (z_idiv x3 10) 10)) a4 7 (z_irem x3 10))) (fun m1 => y_g (0 ≤ x1 ∧ x1 < (6 : Int)) (y_R sp ph d 202 212 [some (y_bo 11 0 a0), some (y_bi x1), some (y_bi x2), none, some (y_bo 100 228 a4), some (y_bi 0)] [] (y_sJ m1 71 x1.toNat 0))) (fun e m1 => y_px e m1) := by
  rw [y_R_eq (md := z_md_202) rfl rfl]
  exact (y_bVc fun m1 => (y_sh (L' := [some (y_bo 11 0 a0), some (y_bi x1), some (y_bi x2), some (y_bi x3), some (y_bo 100 228 a4), none]) (S' := []) rfl rfl rfl))
set_option maxRecDepth 4000 in
theorem y_E_202_212 (d : Nat) (a0 : Nat) (x1 : Int) (x2 : Int) (a4 : Nat) (x5 : Int) (m : y_m) : y_R sp ph d 202 212 [some (y_bo 11 0 a0), some (y_bi x1), some (y_bi x2), none, some (y_bo 100 228 a4), some (y_bi x5)] [] m = if 20 ≤ z_w x5 then y_R sp ph d 202 248 [some (y_bo 11 0 a0), some (y_bi x1), some (y_bi x2), none, some (y_bo 100 228 a4), none] [] m else y_g (0 ≤ x1 ∧ x1 < (6 : Int)) (y_g (0 ≤ x5 ∧ x5 < (228 : Int)) (y_g (0 ≤ x1 ∧ x1 < (6 : Int)) (y_R sp ph d 202 212 [some (y_bo 11 0 a0), some (y_bi x1), some (y_bi x2), none, some (y_bo 100 228 a4), some (y_bi (x5 + 1))] [] (y_sJ m 71 x1.toNat ((10 * (y_mJ m 71 x1.toNat)) + (z_w (y_mI m a4 x5.toNat))))))) := (y_R_eq (md := z_md_202) rfl rfl).trans rfl
set_option maxRecDepth 4000 in
theorem y_E_202_248 (d : Nat) (a0 : Nat) (x1 : Int) (x2 : Int) (a4 : Nat) (m : y_m) : y_R sp ph d 202 248 [some (y_bo 11 0 a0), some (y_bi x1), some (y_bi x2), none, some (y_bo 100 228 a4), none] [] m = y_g (0 ≤ x1 ∧ x1 < (6 : Int)) (y_bV (y_V sp ph d 208 [y_bo 100 228 a4, y_bi (y_mI m 52 2), y_bi x2, y_bo 100 228 (84 + 1 * x1.toNat)] m) (fun m1 => y_g (0 ≤ x1 ∧ x1 < (6 : Int)) (y_R sp ph d 202 276 [some (y_bo 11 0 a0), some (y_bi x1), none, none, none, some (y_bi 0)] [] (y_sJ m1 72 x1.toNat 0))) (fun e m1 => y_px e m1)) := by
  rw [y_R_eq (md := z_md_202) rfl rfl]
  exact (y_gc (y_bVc fun m1 => (y_sh (L' := [some (y_bo 11 0 a0), some (y_bi x1), some (y_bi x2), none, some (y_bo 100 228 a4), none]) (S' := []) rfl rfl rfl)))
set_option maxRecDepth 4000 in
theorem y_E_202_276 (d : Nat) (a0 : Nat) (x1 : Int) (x5 : Int) (m : y_m) : y_R sp ph d 202 276 [some (y_bo 11 0 a0), some (y_bi x1), none, none, none, some (y_bi x5)] [] m = if 20 ≤ z_w x5 then y_R sp ph d 202 316 [none, none, none, none, none, none] [] m else y_g (0 ≤ x1 ∧ x1 < (6 : Int)) (y_g (0 ≤ x1 ∧ x1 < (6 : Int)) (y_g (0 ≤ x5 ∧ x5 < (228 : Int)) (y_g (0 ≤ x1 ∧ x1 < (6 : Int)) (y_R sp ph d 202 276 [some (y_bo 11 0 a0), some (y_bi x1), none, none, none, some (y_bi (x5 + 1))] [] (y_sJ m 72 x1.toNat ((10 * (y_mJ m 72 x1.toNat)) + (z_w (y_mI m (84 + 1 * x1.toNat) x5.toNat)))))))) := (y_R_eq (md := z_md_202) rfl rfl).trans rfl
set_option maxRecDepth 4000 in
theorem y_E_202_316 (d : Nat) (m : y_m) : y_R sp ph d 202 316 [none, none, none, none, none, none] [] m = y_rV m := (y_R_eq (md := z_md_202) rfl rfl).trans rfl
set_option maxRecDepth 4000 in
theorem y_C_202 (d : Nat) (a0 : Nat) (x1 : Int) (m : y_m) : y_V sp ph (d + 1) 202 [y_bo 11 0 a0, y_bi x1] m = y_R sp ph d 202 0 [some (y_bo 11 0 a0), some (y_bi x1), none, none, none, none] [] m := (y_V_eq (md := z_md_202) rfl rfl rfl).trans rfl
/-! LacedHolesModel.moreDigits (II[I)V -/
set_option maxRecDepth 4000 in
theorem y_E_203_0 (d : Nat) (a0 : Nat) (x1 : Int) (x2 : Int) (a3 : Nat) (n3 : Nat) (m : y_m) : y_R sp ph d 203 0 [some (y_bo 11 0 a0), some (y_bi x1), some (y_bi x2), some (y_bo 100 n3 a3), none, none, none, none, none, none] [] m = y_R sp ph d 203 10 [some (y_bo 11 0 a0), some (y_bi x1), some (y_bi x2), some (y_bo 100 n3 a3), some (y_bi (476 : Int)), some (y_bi 0), none, none, none, none] [] m := (y_R_eq (md := z_md_203) rfl rfl).trans rfl
set_option maxRecDepth 4000 in
theorem y_E_203_10 (d : Nat) (a0 : Nat) (x1 : Int) (x2 : Int) (a3 : Nat) (n3 : Nat) (x4 : Int) (x5 : Int) (m : y_m) : y_R sp ph d 203 10 [some (y_bo 11 0 a0), some (y_bi x1), some (y_bi x2), some (y_bo 100 n3 a3), some (y_bi x4), some (y_bi x5), none, none, none, none] [] m = if z_w x4 ≤ z_w x5 then y_R sp ph d 203 39 [some (y_bo 11 0 a0), some (y_bi x1), some (y_bi x2), some (y_bo 100 n3 a3), none, none, none, none, none, none] [] m else y_g (0 ≤ x5 ∧ x5 < (476 : Int)) (y_g (0 ≤ x5 ∧ x5 < (476 : Int)) (y_R sp ph d 203 10 [some (y_bo 11 0 a0), some (y_bi x1), some (y_bi x2), some (y_bo 100 n3 a3), some (y_bi x4), some (y_bi (x5 + 1)), none, none, none, none] [] (y_sI (y_sI m 90 x5.toNat 0) 91 x5.toNat 0))) := (y_R_eq (md := z_md_203) rfl rfl).trans rfl
set_option maxRecDepth 4000 in
theorem y_E_203_39 (d : Nat) (a0 : Nat) (x1 : Int) (x2 : Int) (a3 : Nat) (n3 : Nat) (m : y_m) : y_R sp ph d 203 39 [some (y_bo 11 0 a0), some (y_bi x1), some (y_bi x2), some (y_bo 100 n3 a3), none, none, none, none, none, none] [] m = y_R sp ph d 203 54 [some (y_bo 11 0 a0), none, none, some (y_bo 100 n3 a3), none, some (y_bi x1), some (y_bi (2 * x2)), some (y_bi 8), some (y_bi 0), none] [] m := (y_R_eq (md := z_md_203) rfl rfl).trans rfl
set_option maxRecDepth 4000 in
theorem y_E_203_54 (d : Nat) (a0 : Nat) (a3 : Nat) (n3 : Nat) (x5 : Int) (x6 : Int) (x7 : Int) (x8 : Int) (m : y_m) : y_R sp ph d 203 54 [some (y_bo 11 0 a0), none, none, some (y_bo 100 n3 a3), none, some (y_bi x5), some (y_bi x6), some (y_bi x7), some (y_bi x8), none] [] m = if 8 ≤ z_w x8 then y_R sp ph d 203 105 [some (y_bo 11 0 a0), none, none, some (y_bo 100 n3 a3), none, none, none, some (y_bi x7), none, none] [] m else y_g (0 ≤ x8 ∧ x8 < (476 : Int)) (y_g (0 ≤ x8 ∧ x8 < (476 : Int)) (y_R sp ph d 203 54 [some (y_bo 11 0 a0), none, none, some (y_bo 100 n3 a3), none, some (y_bi (z_idiv x5 10)), some (y_bi (z_idiv x6 10)), some (y_bi x7), some (y_bi (x8 + 1)), none] [] (y_sI (y_sI m 90 x8.toNat (z_irem x5 10)) 91 x8.toNat (z_irem x6 10)))) := (y_R_eq (md := z_md_203) rfl rfl).trans rfl
set_option maxRecDepth 4000 in
theorem y_E_203_105 (d : Nat) (a0 : Nat) (a3 : Nat) (n3 : Nat) (x7 : Int) (m : y_m) : y_R sp ph d 203 105 [some (y_bo 11 0 a0), none, none, some (y_bo 100 n3 a3), none, none, none, some (y_bi x7), none, none] [] m = y_R sp ph d 203 109 [some (y_bo 11 0 a0), none, none, some (y_bo 100 n3 a3), none, none, none, some (y_bi x7), some (y_bi 8), none] [] m := (y_R_eq (md := z_md_203) rfl rfl).trans rfl
set_option maxRecDepth 4000 in
theorem y_E_203_109 (d : Nat) (a0 : Nat) (a3 : Nat) (n3 : Nat) (x7 : Int) (x8 : Int) (m : y_m) : y_R sp ph d 203 109 [some (y_bo 11 0 a0), none, none, some (y_bo 100 n3 a3), none, none, none, some (y_bi x7), some (y_bi x8), none] [] m = if 228 ≤ z_w x8 then y_R sp ph d 203 229 [none, none, none, none, none, none, none, none, none, none] [] m else y_bV (y_V sp ph d 204 [y_bo 100 476 90, y_bi 2, y_bi (x7 + 2)] m) (fun m1 => y_bV (y_V sp ph d 204 [y_bo 100 476 91, y_bi 1, y_bi (x7 + 2)] m1) (fun m2 => y_R sp ph d 203 154 [some (y_bo 11 0 a0), none, none, some (y_bo 100 n3 a3), none, none, none, some (y_bi (x7 + 1)), some (y_bi x8), some (y_bi 0)] [] (y_sI m2 91 0 1)) (fun e m1 => y_px e m1)) (fun e m1 => y_px e m1) := by
  rw [y_R_eq (md := z_md_203) rfl rfl]
  exact (y_ic rfl (y_bVc fun m1 => (y_sh (L' := [some (y_bo 11 0 a0), none, none, some (y_bo 100 n3 a3), none, none, none, some (y_bi x7), some (y_bi x8), none]) (S' := []) rfl rfl (y_bVc fun m2 => (y_sh (L' := [some (y_bo 11 0 a0), none, none, some (y_bo 100 n3 a3), none, none, none, some (y_bi x7), some (y_bi x8), none]) (S' := []) rfl rfl rfl)))))
set_option maxRecDepth 4000 in
theorem y_E_203_154 (d : Nat) (a0 : Nat) (a3 : Nat) (n3 : Nat) (x7 : Int) (x8 : Int) (x9 : Int) (m : y_m) : y_R sp ph d 203 154 [some (y_bo 11 0 a0), none, none, some (y_bo 100 n3 a3), none, none, none, some (y_bi x7), some (y_bi x8), some (y_bi x9)] [] m = y_bI (y_V sp ph d 205 [y_bo 100 476 90, y_bo 100 476 91, y_bi (x7 + 2)] m) (fun v1 m1 => if ¬ z_w v1 = 0 then y_R sp ph d 203 205 [some (y_bo 11 0 a0), none, none, some (y_bo 100 n3 a3), none, none, none, some (y_bi x7), some (y_bi x8), some (y_bi x9)] [] m1 else y_bV (y_V sp ph d 206 [y_bo 100 476 90, y_bo 100 476 91, y_bi (x7 + 2)] m1) (fun m2 => y_bV (y_V sp ph d 207 [y_bo 100 476 91, y_bi 2, y_bi (x7 + 2)] m2) (fun m3 => y_R sp ph d 203 154 [some (y_bo 11 0 a0), none, none, some (y_bo 100 n3 a3), none, none, none, some (y_bi x7), some (y_bi x8), some (y_bi (x9 + 1))] [] m3) (fun e m1 => y_px e m1)) (fun e m1 => y_px e m1)) (fun e m1 => y_px e m1) := by
  rw [y_R_eq (md := z_md_203) rfl rfl]
  exact (y_bIc fun v1 m1 => (y_sh (L' := [some (y_bo 11 0 a0), none, none, some (y_bo 100 n3 a3), none, none, none, some (y_bi x7), some (y_bi x8), some (y_bi x9)]) (S' := [y_bi v1]) rfl rfl (y_ic rfl (y_bVc fun m2 => (y_sh (L' := [some (y_bo 11 0 a0), none, none, some (y_bo 100 n3 a3), none, none, none, some (y_bi x7), some (y_bi x8), some (y_bi x9)]) (S' := []) rfl rfl (y_bVc fun m3 => (y_sh (L' := [some (y_bo 11 0 a0), none, none, some (y_bo 100 n3 a3), none, none, none, some (y_bi x7), some (y_bi x8), some (y_bi x9)]) (S' := []) rfl rfl rfl)))))))
set_option maxRecDepth 4000 in
theorem y_E_203_205 (d : Nat) (a0 : Nat) (a3 : Nat) (n3 : Nat) (x7 : Int) (x8 : Int) (x9 : Int) (m : y_m) : y_R sp ph d 203 205 [some (y_bo 11 0 a0), none, none, some (y_bo 100 n3 a3), none, none, none, some (y_bi x7), some (y_bi x8), some (y_bi x9)] [] m = y_bV (y_V sp ph d 207 [y_bo 100 476 91, y_bi (-1), y_bi (x7 + 2)] m) (fun m1 => y_g (0 ≤ x8 ∧ x8 < (n3 : Int)) (y_R sp ph d 203 109 [some (y_bo 11 0 a0), none, none, some (y_bo 100 n3 a3), none, none, none, some (y_bi x7), some (y_bi (x8 + 1)), none] [] (y_sI m1 a3 x8.toNat x9))) (fun e m1 => y_px e m1) := by
  rw [y_R_eq (md := z_md_203) rfl rfl]
  exact (y_bVc fun m1 => (y_sh (L' := [some (y_bo 11 0 a0), none, none, some (y_bo 100 n3 a3), none, none, none, some (y_bi x7), some (y_bi x8), some (y_bi x9)]) (S' := []) rfl rfl rfl))
set_option maxRecDepth 4000 in
theorem y_E_203_229 (d : Nat) (m : y_m) : y_R sp ph d 203 229 [none, none, none, none, none, none, none, none, none, none] [] m = y_rV m := (y_R_eq (md := z_md_203) rfl rfl).trans rfl
set_option maxRecDepth 4000 in
theorem y_C_203 (d : Nat) (a0 : Nat) (x1 : Int) (x2 : Int) (a3 : Nat) (n3 : Nat) (m : y_m) : y_V sp ph (d + 1) 203 [y_bo 11 0 a0, y_bi x1, y_bi x2, y_bo 100 n3 a3] m = y_R sp ph d 203 0 [some (y_bo 11 0 a0), some (y_bi x1), some (y_bi x2), some (y_bo 100 n3 a3), none, none, none, none, none, none] [] m := (y_V_eq (md := z_md_203) rfl rfl rfl).trans rfl
/-! LacedHolesModel.shifts ([III)V -/
set_option maxRecDepth 4000 in
theorem y_E_204_0 (d : Nat) (a0 : Nat) (n0 : Nat) (x1 : Int) (x2 : Int) (m : y_m) : y_R sp ph d 204 0 [some (y_bo 100 n0 a0), some (y_bi x1), some (y_bi x2), none] [] m = y_R sp ph d 204 2 [some (y_bo 100 n0 a0), some (y_bi x1), none, some (y_bi x2)] [] m := (y_R_eq (md := z_md_204) rfl rfl).trans rfl
set_option maxRecDepth 4000 in
theorem y_E_204_2 (d : Nat) (a0 : Nat) (n0 : Nat) (x1 : Int) (x3 : Int) (m : y_m) : y_R sp ph d 204 2 [some (y_bo 100 n0 a0), some (y_bi x1), none, some (y_bi x3)] [] m = if z_w x3 < z_w x1 then y_R sp ph d 204 21 [some (y_bo 100 n0 a0), some (y_bi x1), none, none] [] m else y_g (0 ≤ x3 - x1 ∧ x3 - x1 < (n0 : Int)) (y_g (0 ≤ x3 ∧ x3 < (n0 : Int)) (y_R sp ph d 204 2 [some (y_bo 100 n0 a0), some (y_bi x1), none, some (y_bi (x3 + (-1)))] [] (y_sI m a0 x3.toNat (y_mI m a0 (x3 - x1).toNat)))) := (y_R_eq (md := z_md_204) rfl rfl).trans rfl
set_option maxRecDepth 4000 in
theorem y_E_204_21 (d : Nat) (a0 : Nat) (n0 : Nat) (x1 : Int) (m : y_m) : y_R sp ph d 204 21 [some (y_bo 100 n0 a0), some (y_bi x1), none, none] [] m = y_R sp ph d 204 23 [some (y_bo 100 n0 a0), some (y_bi x1), none, some (y_bi 0)] [] m := (y_R_eq (md := z_md_204) rfl rfl).trans rfl
set_option maxRecDepth 4000 in
theorem y_E_204_23 (d : Nat) (a0 : Nat) (n0 : Nat) (x1 : Int) (x3 : Int) (m : y_m) : y_R sp ph d 204 23 [some (y_bo 100 n0 a0), some (y_bi x1), none, some (y_bi x3)] [] m = if z_w x1 ≤ z_w x3 then y_R sp ph d 204 38 [none, none, none, none] [] m else y_g (0 ≤ x3 ∧ x3 < (n0 : Int)) (y_R sp ph d 204 23 [some (y_bo 100 n0 a0), some (y_bi x1), none, some (y_bi (x3 + 1))] [] (y_sI m a0 x3.toNat 0)) := (y_R_eq (md := z_md_204) rfl rfl).trans rfl
set_option maxRecDepth 4000 in
theorem y_E_204_38 (d : Nat) (m : y_m) : y_R sp ph d 204 38 [none, none, none, none] [] m = y_rV m := (y_R_eq (md := z_md_204) rfl rfl).trans rfl
set_option maxRecDepth 4000 in
theorem y_C_204 (d : Nat) (a0 : Nat) (n0 : Nat) (x1 : Int) (x2 : Int) (m : y_m) : y_V sp ph (d + 1) 204 [y_bo 100 n0 a0, y_bi x1, y_bi x2] m = y_R sp ph d 204 0 [some (y_bo 100 n0 a0), some (y_bi x1), some (y_bi x2), none] [] m := (y_V_eq (md := z_md_204) rfl rfl rfl).trans rfl
/-! LacedHolesModel.isLess ([I[II)Z -/
set_option maxRecDepth 4000 in
theorem y_E_205_0 (d : Nat) (a0 : Nat) (n0 : Nat) (a1 : Nat) (n1 : Nat) (x2 : Int) (m : y_m) : y_R sp ph d 205 0 [some (y_bo 100 n0 a0), some (y_bo 100 n1 a1), some (y_bi x2), none] [] m = y_R sp ph d 205 2 [some (y_bo 100 n0 a0), some (y_bo 100 n1 a1), none, some (y_bi x2)] [] m := (y_R_eq (md := z_md_205) rfl rfl).trans rfl
set_option maxRecDepth 4000 in
theorem y_E_205_2 (d : Nat) (a0 : Nat) (n0 : Nat) (a1 : Nat) (n1 : Nat) (x3 : Int) (m : y_m) : y_R sp ph d 205 2 [some (y_bo 100 n0 a0), some (y_bo 100 n1 a1), none, some (y_bi x3)] [] m = if z_w x3 < 0 then y_R sp ph d 205 36 [none, none, none, none] [] m else y_g (0 ≤ x3 ∧ x3 < (n0 : Int)) (y_g (0 ≤ x3 ∧ x3 < (n1 : Int)) (if z_w (y_mI m a0 x3.toNat) = z_w (y_mI m a1 x3.toNat) then y_R sp ph d 205 30 [some (y_bo 100 n0 a0), some (y_bo 100 n1 a1), none, some (y_bi x3)] [] m else y_g (0 ≤ x3 ∧ x3 < (n0 : Int)) (y_g (0 ≤ x3 ∧ x3 < (n1 : Int)) (if z_w (y_mI m a1 x3.toNat) ≤ z_w (y_mI m a0 x3.toNat) then y_R sp ph d 205 28 [none, none, none, none] [] m else y_R sp ph d 205 29 [none, none, none, none] [y_bi 1] m)))) := (y_R_eq (md := z_md_205) rfl rfl).trans rfl
set_option maxRecDepth 4000 in
theorem y_E_205_28 (d : Nat) (m : y_m) : y_R sp ph d 205 28 [none, none, none, none] [] m = y_R sp ph d 205 29 [none, none, none, none] [y_bi 0] m := (y_R_eq (md := z_md_205) rfl rfl).trans rfl
set_option maxRecDepth 4000 in
theorem y_E_205_29 (d : Nat) (xs0 : Int) (m : y_m) : y_R sp ph d 205 29 [none, none, none, none] [y_bi xs0] m = y_g (xs0 = 0 ∨ xs0 = 1) (y_rI xs0 m) := (y_R_eq (md := z_md_205) rfl rfl).trans rfl
set_option maxRecDepth 4000 in
theorem y_E_205_30 (d : Nat) (a0 : Nat) (n0 : Nat) (a1 : Nat) (n1 : Nat) (x3 : Int) (m : y_m) : y_R sp ph d 205 30 [some (y_bo 100 n0 a0), some (y_bo 100 n1 a1), none, some (y_bi x3)] [] m = y_R sp ph d 205 2 [some (y_bo 100 n0 a0), some (y_bo 100 n1 a1), none, some (y_bi (x3 + (-1)))] [] m := (y_R_eq (md := z_md_205) rfl rfl).trans rfl
set_option maxRecDepth 4000 in
theorem y_E_205_36 (d : Nat) (m : y_m) : y_R sp ph d 205 36 [none, none, none, none] [] m = y_rI 0 m := (y_R_eq (md := z_md_205) rfl rfl).trans rfl
set_option maxRecDepth 4000 in
theorem y_C_205 (d : Nat) (a0 : Nat) (n0 : Nat) (a1 : Nat) (n1 : Nat) (x2 : Int) (m : y_m) : y_V sp ph (d + 1) 205 [y_bo 100 n0 a0, y_bo 100 n1 a1, y_bi x2] m = y_R sp ph d 205 0 [some (y_bo 100 n0 a0), some (y_bo 100 n1 a1), some (y_bi x2), none] [] m := (y_V_eq (md := z_md_205) rfl rfl rfl).trans rfl
/-! LacedHolesModel.takesOff ([I[II)V -/
set_option maxRecDepth 4000 in
theorem y_E_206_0 (d : Nat) (a0 : Nat) (n0 : Nat) (a1 : Nat) (n1 : Nat) (x2 : Int) (m : y_m) : y_R sp ph d 206 0 [some (y_bo 100 n0 a0), some (y_bo 100 n1 a1), some (y_bi x2), none, none, none] [] m = y_R sp ph d 206 5 [some (y_bo 100 n0 a0), some (y_bo 100 n1 a1), some (y_bi x2), some (y_bi 0), some (y_bi 0), none] [] m := (y_R_eq (md := z_md_206) rfl rfl).trans rfl
set_option maxRecDepth 4000 in
theorem y_E_206_5 (d : Nat) (a0 : Nat) (n0 : Nat) (a1 : Nat) (n1 : Nat) (x2 : Int) (x3 : Int) (x4 : Int) (m : y_m) : y_R sp ph d 206 5 [some (y_bo 100 n0 a0), some (y_bo 100 n1 a1), some (y_bi x2), some (y_bi x3), some (y_bi x4), none] [] m = if z_w x2 < z_w x4 then y_R sp ph d 206 60 [none, none, none, none, none, none] [] m else y_g (0 ≤ x4 ∧ x4 < (n0 : Int)) (y_g (0 ≤ x4 ∧ x4 < (n1 : Int)) (if 0 ≤ z_w (((y_mI m a0 x4.toNat) - (y_mI m a1 x4.toNat)) - x3) then y_R sp ph d 206 33 [some (y_bo 100 n0 a0), some (y_bo 100 n1 a1), some (y_bi x2), none, some (y_bi x4), some (y_bi (((y_mI m a0 x4.toNat) - (y_mI m a1 x4.toNat)) - x3))] [] m else y_R sp ph d 206 34 [some (y_bo 100 n0 a0), some (y_bo 100 n1 a1), some (y_bi x2), none, some (y_bi x4), some (y_bi (((y_mI m a0 x4.toNat) - (y_mI m a1 x4.toNat)) - x3))] [y_bi 1] m)) := (y_R_eq (md := z_md_206) rfl rfl).trans rfl
set_option maxRecDepth 4000 in
theorem y_E_206_33 (d : Nat) (a0 : Nat) (n0 : Nat) (a1 : Nat) (n1 : Nat) (x2 : Int) (x4 : Int) (x5 : Int) (m : y_m) : y_R sp ph d 206 33 [some (y_bo 100 n0 a0), some (y_bo 100 n1 a1), some (y_bi x2), none, some (y_bi x4), some (y_bi x5)] [] m = y_R sp ph d 206 34 [some (y_bo 100 n0 a0), some (y_bo 100 n1 a1), some (y_bi x2), none, some (y_bi x4), some (y_bi x5)] [y_bi 0] m := (y_R_eq (md := z_md_206) rfl rfl).trans rfl
set_option maxRecDepth 4000 in
theorem y_E_206_34 (d : Nat) (a0 : Nat) (n0 : Nat) (a1 : Nat) (n1 : Nat) (x2 : Int) (x4 : Int) (x5 : Int) (xs0 : Int) (m : y_m) : y_R sp ph d 206 34 [some (y_bo 100 n0 a0), some (y_bo 100 n1 a1), some (y_bi x2), none, some (y_bi x4), some (y_bi x5)] [y_bi xs0] m = if 0 ≤ z_w x5 then y_R sp ph d 206 51 [some (y_bo 100 n0 a0), some (y_bo 100 n1 a1), some (y_bi x2), some (y_bi xs0), some (y_bi x4), some (y_bi x5)] [y_bi x4, y_bo 100 n0 a0] m else y_R sp ph d 206 53 [some (y_bo 100 n0 a0), some (y_bo 100 n1 a1), some (y_bi x2), some (y_bi xs0), some (y_bi x4), none] [y_bi (x5 + 10), y_bi x4, y_bo 100 n0 a0] m := (y_R_eq (md := z_md_206) rfl rfl).trans rfl
set_option maxRecDepth 4000 in
theorem y_E_206_51 (d : Nat) (a0 : Nat) (n0 : Nat) (a1 : Nat) (n1 : Nat) (x2 : Int) (x3 : Int) (x4 : Int) (x5 : Int) (xs0 : Int) (as1 : Nat) (ns1 : Nat) (m : y_m) : y_R sp ph d 206 51 [some (y_bo 100 n0 a0), some (y_bo 100 n1 a1), some (y_bi x2), some (y_bi x3), some (y_bi x4), some (y_bi x5)] [y_bi xs0, y_bo 100 ns1 as1] m = y_R sp ph d 206 53 [some (y_bo 100 n0 a0), some (y_bo 100 n1 a1), some (y_bi x2), some (y_bi x3), some (y_bi x4), none] [y_bi x5, y_bi xs0, y_bo 100 ns1 as1] m := (y_R_eq (md := z_md_206) rfl rfl).trans rfl
set_option maxRecDepth 4000 in
theorem y_E_206_53 (d : Nat) (a0 : Nat) (n0 : Nat) (a1 : Nat) (n1 : Nat) (x2 : Int) (x3 : Int) (x4 : Int) (xs0 : Int) (xs1 : Int) (as2 : Nat) (ns2 : Nat) (m : y_m) : y_R sp ph d 206 53 [some (y_bo 100 n0 a0), some (y_bo 100 n1 a1), some (y_bi x2), some (y_bi x3), some (y_bi x4), none] [y_bi xs0, y_bi xs1, y_bo 100 ns2 as2] m = y_g (0 ≤ xs1 ∧ xs1 < (ns2 : Int)) (y_R sp ph d 206 5 [some (y_bo 100 n0 a0), some (y_bo 100 n1 a1), some (y_bi x2), some (y_bi x3), some (y_bi (x4 + 1)), none] [] (y_sI m as2 xs1.toNat xs0)) := (y_R_eq (md := z_md_206) rfl rfl).trans rfl
set_option maxRecDepth 4000 in
theorem y_E_206_60 (d : Nat) (m : y_m) : y_R sp ph d 206 60 [none, none, none, none, none, none] [] m = y_rV m := (y_R_eq (md := z_md_206) rfl rfl).trans rfl
set_option maxRecDepth 4000 in
theorem y_C_206 (d : Nat) (a0 : Nat) (n0 : Nat) (a1 : Nat) (n1 : Nat) (x2 : Int) (m : y_m) : y_V sp ph (d + 1) 206 [y_bo 100 n0 a0, y_bo 100 n1 a1, y_bi x2] m = y_R sp ph d 206 0 [some (y_bo 100 n0 a0), some (y_bo 100 n1 a1), some (y_bi x2), none, none, none] [] m := (y_V_eq (md := z_md_206) rfl rfl rfl).trans rfl
/-! LacedHolesModel.adds ([III)V -/
set_option maxRecDepth 4000 in
theorem y_E_207_0 (d : Nat) (a0 : Nat) (n0 : Nat) (x1 : Int) (x2 : Int) (m : y_m) : y_R sp ph d 207 0 [some (y_bo 100 n0 a0), some (y_bi x1), some (y_bi x2), none, none, none] [] m = y_R sp ph d 207 5 [some (y_bo 100 n0 a0), none, some (y_bi x2), some (y_bi x1), some (y_bi 0), none] [] m := (y_R_eq (md := z_md_207) rfl rfl).trans rfl
set_option maxRecDepth 4000 in
theorem y_E_207_5 (d : Nat) (a0 : Nat) (n0 : Nat) (x2 : Int) (x3 : Int) (x4 : Int) (m : y_m) : y_R sp ph d 207 5 [some (y_bo 100 n0 a0), none, some (y_bi x2), some (y_bi x3), some (y_bi x4), none] [] m = if z_w x2 < z_w x4 then y_R sp ph d 207 66 [none, none, none, none, none, none] [] m else if z_w x3 = 0 then y_R sp ph d 207 66 [none, none, none, none, none, none] [] m else y_g (0 ≤ x4 ∧ x4 < (n0 : Int)) (if 0 ≤ z_w ((y_mI m a0 x4.toNat) + x3) then y_R sp ph d 207 32 [some (y_bo 100 n0 a0), none, some (y_bi x2), none, some (y_bi x4), some (y_bi ((y_mI m a0 x4.toNat) + x3))] [] m else y_R sp ph d 207 37 [some (y_bo 100 n0 a0), none, some (y_bi x2), none, some (y_bi x4), some (y_bi ((y_mI m a0 x4.toNat) + x3))] [y_bi (-1)] m) := (y_R_eq (md := z_md_207) rfl rfl).trans rfl
set_option maxRecDepth 4000 in
theorem y_E_207_32 (d : Nat) (a0 : Nat) (n0 : Nat) (x2 : Int) (x4 : Int) (x5 : Int) (m : y_m) : y_R sp ph d 207 32 [some (y_bo 100 n0 a0), none, some (y_bi x2), none, some (y_bi x4), some (y_bi x5)] [] m = y_R sp ph d 207 37 [some (y_bo 100 n0 a0), none, some (y_bi x2), none, some (y_bi x4), some (y_bi x5)] [y_bi (z_idiv x5 10)] m := (y_R_eq (md := z_md_207) rfl rfl).trans rfl
set_option maxRecDepth 4000 in
theorem y_E_207_37 (d : Nat) (a0 : Nat) (n0 : Nat) (x2 : Int) (x4 : Int) (x5 : Int) (xs0 : Int) (m : y_m) : y_R sp ph d 207 37 [some (y_bo 100 n0 a0), none, some (y_bi x2), none, some (y_bi x4), some (y_bi x5)] [y_bi xs0] m = if 0 ≤ z_w x5 then y_R sp ph d 207 54 [some (y_bo 100 n0 a0), none, some (y_bi x2), some (y_bi xs0), some (y_bi x4), some (y_bi x5)] [y_bi x4, y_bo 100 n0 a0] m else y_R sp ph d 207 59 [some (y_bo 100 n0 a0), none, some (y_bi x2), some (y_bi xs0), some (y_bi x4), none] [y_bi (x5 + 10), y_bi x4, y_bo 100 n0 a0] m := (y_R_eq (md := z_md_207) rfl rfl).trans rfl
set_option maxRecDepth 4000 in
theorem y_E_207_54 (d : Nat) (a0 : Nat) (n0 : Nat) (x2 : Int) (x3 : Int) (x4 : Int) (x5 : Int) (xs0 : Int) (as1 : Nat) (ns1 : Nat) (m : y_m) : y_R sp ph d 207 54 [some (y_bo 100 n0 a0), none, some (y_bi x2), some (y_bi x3), some (y_bi x4), some (y_bi x5)] [y_bi xs0, y_bo 100 ns1 as1] m = y_R sp ph d 207 59 [some (y_bo 100 n0 a0), none, some (y_bi x2), some (y_bi x3), some (y_bi x4), none] [y_bi (z_irem x5 10), y_bi xs0, y_bo 100 ns1 as1] m := (y_R_eq (md := z_md_207) rfl rfl).trans rfl
set_option maxRecDepth 4000 in
theorem y_E_207_59 (d : Nat) (a0 : Nat) (n0 : Nat) (x2 : Int) (x3 : Int) (x4 : Int) (xs0 : Int) (xs1 : Int) (as2 : Nat) (ns2 : Nat) (m : y_m) : y_R sp ph d 207 59 [some (y_bo 100 n0 a0), none, some (y_bi x2), some (y_bi x3), some (y_bi x4), none] [y_bi xs0, y_bi xs1, y_bo 100 ns2 as2] m = y_g (0 ≤ xs1 ∧ xs1 < (ns2 : Int)) (y_R sp ph d 207 5 [some (y_bo 100 n0 a0), none, some (y_bi x2), some (y_bi x3), some (y_bi (x4 + 1)), none] [] (y_sI m as2 xs1.toNat xs0)) := (y_R_eq (md := z_md_207) rfl rfl).trans rfl
set_option maxRecDepth 4000 in
theorem y_E_207_66 (d : Nat) (m : y_m) : y_R sp ph d 207 66 [none, none, none, none, none, none] [] m = y_rV m := (y_R_eq (md := z_md_207) rfl rfl).trans rfl
set_option maxRecDepth 4000 in
theorem y_C_207 (d : Nat) (a0 : Nat) (n0 : Nat) (x1 : Int) (x2 : Int) (m : y_m) : y_V sp ph (d + 1) 207 [y_bo 100 n0 a0, y_bi x1, y_bi x2] m = y_R sp ph d 207 0 [some (y_bo 100 n0 a0), some (y_bi x1), some (y_bi x2), none, none, none] [] m := (y_V_eq (md := z_md_207) rfl rfl rfl).trans rfl
/-! LacedHolesModel.dividesInto ([III[I)V -/
set_option maxRecDepth 4000 in
theorem y_E_208_0 (d : Nat) (a0 : Nat) (n0 : Nat) (x1 : Int) (x2 : Int) (a3 : Nat) (n3 : Nat) (m : y_m) : y_R sp ph d 208 0 [some (y_bo 100 n0 a0), some (y_bi x1), some (y_bi x2), some (y_bo 100 n3 a3), none, none, none, none, none] [] m = y_R sp ph d 208 12 [some (y_bo 100 n0 a0), some (y_bi x1), some (y_bi x2), some (y_bo 100 n3 a3), some (y_bl 0), none, some (y_bi 0), some (y_bi ((n0 : Int) - 1)), none] [] m := (y_R_eq (md := z_md_208) rfl rfl).trans rfl
set_option maxRecDepth 4000 in
theorem y_E_208_12 (d : Nat) (a0 : Nat) (n0 : Nat) (x1 : Int) (x2 : Int) (a3 : Nat) (n3 : Nat) (x4 : Int) (x6 : Int) (x7 : Int) (m : y_m) : y_R sp ph d 208 12 [some (y_bo 100 n0 a0), some (y_bi x1), some (y_bi x2), some (y_bo 100 n3 a3), some (y_bl x4), none, some (y_bi x6), some (y_bi x7), none] [] m = if z_w x7 < 0 then y_R sp ph d 208 50 [some (y_bo 100 n0 a0), none, some (y_bi x2), some (y_bo 100 n3 a3), some (y_bl x4), none, none, none, none] [] m else y_g (0 ≤ x7 ∧ x7 < (n0 : Int)) (y_g (0 ≤ x7 ∧ x7 < (n3 : Int)) (y_R sp ph d 208 12 [some (y_bo 100 n0 a0), some (y_bi x1), some (y_bi x2), some (y_bo 100 n3 a3), some (y_bl x4), none, some (y_bi (z_idiv (((y_mI m a0 x7.toNat) * x1) + x6) 10)), some (y_bi (x7 + (-1))), none] [] (y_sI m a3 x7.toNat (z_irem (((y_mI m a0 x7.toNat) * x1) + x6) 10)))) := (y_R_eq (md := z_md_208) rfl rfl).trans rfl
set_option maxRecDepth 4000 in
theorem y_E_208_50 (d : Nat) (a0 : Nat) (n0 : Nat) (x2 : Int) (a3 : Nat) (n3 : Nat) (x4 : Int) (m : y_m) : y_R sp ph d 208 50 [some (y_bo 100 n0 a0), none, some (y_bi x2), some (y_bo 100 n3 a3), some (y_bl x4), none, none, none, none] [] m = y_R sp ph d 208 53 [some (y_bo 100 n0 a0), none, some (y_bi x2), some (y_bo 100 n3 a3), some (y_bl x4), none, none, some (y_bi 0), none] [] m := (y_R_eq (md := z_md_208) rfl rfl).trans rfl
set_option maxRecDepth 4000 in
theorem y_E_208_53 (d : Nat) (a0 : Nat) (n0 : Nat) (x2 : Int) (a3 : Nat) (n3 : Nat) (x4 : Int) (x7 : Int) (m : y_m) : y_R sp ph d 208 53 [some (y_bo 100 n0 a0), none, some (y_bi x2), some (y_bo 100 n3 a3), some (y_bl x4), none, none, some (y_bi x7), none] [] m = if z_w (n0 : Int) ≤ z_w x7 then y_R sp ph d 208 97 [none, none, none, none, none, none, none, none, none] [] m else y_g (0 ≤ x7 ∧ x7 < (n3 : Int)) (y_g (z_wl (z_w x2) ≠ 0) (y_g (0 ≤ x7 ∧ x7 < (n3 : Int)) (y_g (z_wl (z_w x2) ≠ 0) (y_R sp ph d 208 53 [some (y_bo 100 n0 a0), none, some (y_bi x2), some (y_bo 100 n3 a3), some (y_bl (z_lrem ((10 * x4) + (z_w (y_mI m a3 x7.toNat))) (z_w x2))), none, none, some (y_bi (x7 + 1)), none] [] (y_sI m a3 x7.toNat (z_ldiv ((10 * x4) + (z_w (y_mI m a3 x7.toNat))) (z_w x2))))))) := (y_R_eq (md := z_md_208) rfl rfl).trans rfl
set_option maxRecDepth 4000 in
theorem y_E_208_97 (d : Nat) (m : y_m) : y_R sp ph d 208 97 [none, none, none, none, none, none, none, none, none] [] m = y_rV m := (y_R_eq (md := z_md_208) rfl rfl).trans rfl
set_option maxRecDepth 4000 in
theorem y_C_208 (d : Nat) (a0 : Nat) (n0 : Nat) (x1 : Int) (x2 : Int) (a3 : Nat) (n3 : Nat) (m : y_m) : y_V sp ph (d + 1) 208 [y_bo 100 n0 a0, y_bi x1, y_bi x2, y_bo 100 n3 a3] m = y_R sp ph d 208 0 [some (y_bo 100 n0 a0), some (y_bi x1), some (y_bi x2), some (y_bo 100 n3 a3), none, none, none, none, none] [] m := (y_V_eq (md := z_md_208) rfl rfl rfl).trans rfl
/-! LacedHolesModel.isLeft (I)Z -/
set_option maxRecDepth 4000 in
theorem y_E_209_0 (d : Nat) (a0 : Nat) (x1 : Int) (m : y_m) : y_R sp ph d 209 0 [some (y_bo 11 0 a0), some (y_bi x1)] [] m = if z_w (y_mI m 52 0) ≤ z_w x1 then y_R sp ph d 209 14 [none, none] [] m else y_R sp ph d 209 15 [none, none] [y_bi 1] m := (y_R_eq (md := z_md_209) rfl rfl).trans rfl
set_option maxRecDepth 4000 in
theorem y_E_209_14 (d : Nat) (m : y_m) : y_R sp ph d 209 14 [none, none] [] m = y_R sp ph d 209 15 [none, none] [y_bi 0] m := (y_R_eq (md := z_md_209) rfl rfl).trans rfl
set_option maxRecDepth 4000 in
theorem y_E_209_15 (d : Nat) (xs0 : Int) (m : y_m) : y_R sp ph d 209 15 [none, none] [y_bi xs0] m = y_g (xs0 = 0 ∨ xs0 = 1) (y_rI xs0 m) := (y_R_eq (md := z_md_209) rfl rfl).trans rfl
set_option maxRecDepth 4000 in
theorem y_C_209 (d : Nat) (a0 : Nat) (x1 : Int) (m : y_m) : y_V sp ph (d + 1) 209 [y_bo 11 0 a0, y_bi x1] m = y_R sp ph d 209 0 [some (y_bo 11 0 a0), some (y_bi x1)] [] m := (y_V_eq (md := z_md_209) rfl rfl rfl).trans rfl
/-! LacedHolesModel.row (I)I -/
set_option maxRecDepth 4000 in
theorem y_E_210_0 (d : Nat) (a0 : Nat) (x1 : Int) (m : y_m) : y_R sp ph d 210 0 [some (y_bo 11 0 a0), some (y_bi x1)] [] m = y_bI (y_V sp ph d 209 [y_bo 11 0 a0, y_bi x1] m) (fun v1 m1 => if z_w v1 = 0 then y_R sp ph d 210 12 [some (y_bo 11 0 a0), some (y_bi x1)] [] m1 else y_R sp ph d 210 20 [none, none] [y_bi x1] m1) (fun e m1 => y_px e m1) := by
  rw [y_R_eq (md := z_md_210) rfl rfl]
  exact (y_bIc fun v1 m1 => (y_sh (L' := [some (y_bo 11 0 a0), some (y_bi x1)]) (S' := [y_bi v1]) rfl rfl rfl))
set_option maxRecDepth 4000 in
theorem y_E_210_12 (d : Nat) (a0 : Nat) (x1 : Int) (m : y_m) : y_R sp ph d 210 12 [some (y_bo 11 0 a0), some (y_bi x1)] [] m = y_R sp ph d 210 20 [none, none] [y_bi (x1 - (y_mI m 52 0))] m := (y_R_eq (md := z_md_210) rfl rfl).trans rfl
set_option maxRecDepth 4000 in
theorem y_E_210_20 (d : Nat) (xs0 : Int) (m : y_m) : y_R sp ph d 210 20 [none, none] [y_bi xs0] m = y_rI xs0 m := (y_R_eq (md := z_md_210) rfl rfl).trans rfl
set_option maxRecDepth 4000 in
theorem y_C_210 (d : Nat) (a0 : Nat) (x1 : Int) (m : y_m) : y_V sp ph (d + 1) 210 [y_bo 11 0 a0, y_bi x1] m = y_R sp ph d 210 0 [some (y_bo 11 0 a0), some (y_bi x1)] [] m := (y_V_eq (md := z_md_210) rfl rfl rfl).trans rfl
/-! LacedHolesModel.isAcross (II)Z -/
set_option maxRecDepth 4000 in
theorem y_E_211_0 (d : Nat) (a0 : Nat) (x1 : Int) (x2 : Int) (m : y_m) : y_R sp ph d 211 0 [some (y_bo 11 0 a0), some (y_bi x1), some (y_bi x2)] [] m = y_bI (y_V sp ph d 209 [y_bo 11 0 a0, y_bi x1] m) (fun v1 m1 => y_bI (y_V sp ph d 209 [y_bo 11 0 a0, y_bi x2] m1) (fun v2 m2 => if z_w v1 = z_w v2 then y_R sp ph d 211 17 [none, none, none] [] m2 else y_R sp ph d 211 18 [none, none, none] [y_bi 1] m2) (fun e m1 => y_px e m1)) (fun e m1 => y_px e m1) := by
  rw [y_R_eq (md := z_md_211) rfl rfl]
  exact (y_bIc fun v1 m1 => (y_sh (L' := [some (y_bo 11 0 a0), some (y_bi x1), some (y_bi x2)]) (S' := [y_bi v1]) rfl rfl (y_bIc fun v2 m2 => (y_sh (L' := [some (y_bo 11 0 a0), some (y_bi x1), some (y_bi x2)]) (S' := [y_bi v2, y_bi v1]) rfl rfl rfl))))
set_option maxRecDepth 4000 in
theorem y_E_211_17 (d : Nat) (m : y_m) : y_R sp ph d 211 17 [none, none, none] [] m = y_R sp ph d 211 18 [none, none, none] [y_bi 0] m := (y_R_eq (md := z_md_211) rfl rfl).trans rfl
set_option maxRecDepth 4000 in
theorem y_E_211_18 (d : Nat) (xs0 : Int) (m : y_m) : y_R sp ph d 211 18 [none, none, none] [y_bi xs0] m = y_g (xs0 = 0 ∨ xs0 = 1) (y_rI xs0 m) := (y_R_eq (md := z_md_211) rfl rfl).trans rfl
set_option maxRecDepth 4000 in
theorem y_C_211 (d : Nat) (a0 : Nat) (x1 : Int) (x2 : Int) (m : y_m) : y_V sp ph (d + 1) 211 [y_bo 11 0 a0, y_bi x1, y_bi x2] m = y_R sp ph d 211 0 [some (y_bo 11 0 a0), some (y_bi x1), some (y_bi x2)] [] m := (y_V_eq (md := z_md_211) rfl rfl rfl).trans rfl
/-! LacedHolesModel.spanOf (II)J -/
set_option maxRecDepth 4000 in
theorem y_E_212_0 (d : Nat) (a0 : Nat) (x1 : Int) (x2 : Int) (m : y_m) : y_R sp ph d 212 0 [some (y_bo 11 0 a0), some (y_bi x1), some (y_bi x2), none] [] m = y_bI (y_V sp ph d 210 [y_bo 11 0 a0, y_bi x1] m) (fun v1 m1 => y_bI (y_V sp ph d 210 [y_bo 11 0 a0, y_bi x2] m1) (fun v2 m2 => if z_w v1 ≤ z_w v2 then y_R sp ph d 212 27 [some (y_bo 11 0 a0), some (y_bi x1), some (y_bi x2), none] [] m2 else y_bI (y_V sp ph d 210 [y_bo 11 0 a0, y_bi x1] m2) (fun v3 m3 => y_bI (y_V sp ph d 210 [y_bo 11 0 a0, y_bi x2] m3) (fun v4 m4 => y_R sp ph d 212 38 [some (y_bo 11 0 a0), some (y_bi x1), some (y_bi x2), none] [y_bi (v3 - v4)] m4) (fun e m1 => y_px e m1)) (fun e m1 => y_px e m1)) (fun e m1 => y_px e m1)) (fun e m1 => y_px e m1) := by
  rw [y_R_eq (md := z_md_212) rfl rfl]
  exact (y_bIc fun v1 m1 => (y_sh (L' := [some (y_bo 11 0 a0), some (y_bi x1), some (y_bi x2), none]) (S' := [y_bi v1]) rfl rfl (y_bIc fun v2 m2 => (y_sh (L' := [some (y_bo 11 0 a0), some (y_bi x1), some (y_bi x2), none]) (S' := [y_bi v2, y_bi v1]) rfl rfl (y_ic rfl (y_bIc fun v3 m3 => (y_sh (L' := [some (y_bo 11 0 a0), some (y_bi x1), some (y_bi x2), none]) (S' := [y_bi v3]) rfl rfl (y_bIc fun v4 m4 => (y_sh (L' := [some (y_bo 11 0 a0), some (y_bi x1), some (y_bi x2), none]) (S' := [y_bi v4, y_bi v3]) rfl rfl rfl)))))))))
set_option maxRecDepth 4000 in
theorem y_E_212_27 (d : Nat) (a0 : Nat) (x1 : Int) (x2 : Int) (m : y_m) : y_R sp ph d 212 27 [some (y_bo 11 0 a0), some (y_bi x1), some (y_bi x2), none] [] m = y_bI (y_V sp ph d 210 [y_bo 11 0 a0, y_bi x2] m) (fun v1 m1 => y_bI (y_V sp ph d 210 [y_bo 11 0 a0, y_bi x1] m1) (fun v2 m2 => y_R sp ph d 212 38 [some (y_bo 11 0 a0), some (y_bi x1), some (y_bi x2), none] [y_bi (v1 - v2)] m2) (fun e m1 => y_px e m1)) (fun e m1 => y_px e m1) := by
  rw [y_R_eq (md := z_md_212) rfl rfl]
  exact (y_bIc fun v1 m1 => (y_sh (L' := [some (y_bo 11 0 a0), some (y_bi x1), some (y_bi x2), none]) (S' := [y_bi v1]) rfl rfl (y_bIc fun v2 m2 => (y_sh (L' := [some (y_bo 11 0 a0), some (y_bi x1), some (y_bi x2), none]) (S' := [y_bi v2, y_bi v1]) rfl rfl rfl))))
set_option maxRecDepth 4000 in
theorem y_E_212_38 (d : Nat) (a0 : Nat) (x1 : Int) (x2 : Int) (xs0 : Int) (m : y_m) : y_R sp ph d 212 38 [some (y_bo 11 0 a0), some (y_bi x1), some (y_bi x2), none] [y_bi xs0] m = y_bI (y_V sp ph d 211 [y_bo 11 0 a0, y_bi x1, y_bi x2] m) (fun v1 m1 => if ¬ z_w v1 = 0 then y_R sp ph d 212 61 [some (y_bo 11 0 a0), none, none, some (y_bi xs0)] [] m1 else y_rL (z_lshl (z_w (xs0 * (y_mI m1 52 3))) 24) m1) (fun e m1 => y_px e m1) := by
  rw [y_R_eq (md := z_md_212) rfl rfl]
  exact (y_bIc fun v1 m1 => (y_sh (L' := [some (y_bo 11 0 a0), some (y_bi x1), some (y_bi x2), some (y_bi xs0)]) (S' := [y_bi v1]) rfl rfl rfl))
set_option maxRecDepth 4000 in
theorem y_E_212_61 (d : Nat) (a0 : Nat) (x3 : Int) (m : y_m) : y_R sp ph d 212 61 [some (y_bo 11 0 a0), none, none, some (y_bi x3)] [] m = if ¬ z_w x3 = 0 then y_R sp ph d 212 78 [none, none, none, some (y_bi x3)] [] m else y_R sp ph d 212 79 [none, none, none, some (y_bi x3)] [y_bl (z_lshl (z_w (y_mI m 52 2)) 24)] m := (y_R_eq (md := z_md_212) rfl rfl).trans rfl
set_option maxRecDepth 4000 in
theorem y_E_212_78 (d : Nat) (x3 : Int) (m : y_m) : y_R sp ph d 212 78 [none, none, none, some (y_bi x3)] [] m = y_R sp ph d 212 79 [none, none, none, some (y_bi x3)] [y_bl 0] m := (y_R_eq (md := z_md_212) rfl rfl).trans rfl
set_option maxRecDepth 4000 in
theorem y_E_212_79 (d : Nat) (x3 : Int) (xs0 : Int) (m : y_m) : y_R sp ph d 212 79 [none, none, none, some (y_bi x3)] [y_bl xs0] m = y_rL (z_lor xs0 (z_lshl 1 (4 * x3))) m := (y_R_eq (md := z_md_212) rfl rfl).trans rfl
set_option maxRecDepth 4000 in
theorem y_C_212 (d : Nat) (a0 : Nat) (x1 : Int) (x2 : Int) (m : y_m) : y_V sp ph (d + 1) 212 [y_bo 11 0 a0, y_bi x1, y_bi x2] m = y_R sp ph d 212 0 [some (y_bo 11 0 a0), some (y_bi x1), some (y_bi x2), none] [] m := (y_V_eq (md := z_md_212) rfl rfl rfl).trans rfl
/-! LacedHolesModel.wholeOf (J)I -/
set_option maxRecDepth 4000 in
theorem y_E_213_0 (d : Nat) (x0 : Int) (m : y_m) : y_R sp ph d 213 0 [some (y_bl x0), none] [] m = y_rI (z_lshr x0 24) m := (y_R_eq (md := z_md_213) rfl rfl).trans rfl
set_option maxRecDepth 4000 in
theorem y_C_213 (d : Nat) (x0 : Int) (m : y_m) : y_V sp ph (d + 1) 213 [y_bl x0] m = y_R sp ph d 213 0 [some (y_bl x0), none] [] m := (y_V_eq (md := z_md_213) rfl rfl rfl).trans rfl
/-! LacedHolesModel.timesOf (JI)I -/
set_option maxRecDepth 4000 in
theorem y_E_214_0 (d : Nat) (x0 : Int) (x2 : Int) (m : y_m) : y_R sp ph d 214 0 [some (y_bl x0), none, some (y_bi x2)] [] m = y_rI (z_land (z_lshr x0 (4 * x2)) 15) m := (y_R_eq (md := z_md_214) rfl rfl).trans rfl
set_option maxRecDepth 4000 in
theorem y_C_214 (d : Nat) (x0 : Int) (x2 : Int) (m : y_m) : y_V sp ph (d + 1) 214 [y_bl x0, y_bi x2] m = y_R sp ph d 214 0 [some (y_bl x0), none, some (y_bi x2)] [] m := (y_V_eq (md := z_md_214) rfl rfl rfl).trans rfl
/-! LacedHolesModel.isNothing (Z)Z -/
set_option maxRecDepth 4000 in
theorem y_E_215_0 (d : Nat) (a0 : Nat) (x1 : Int) (m : y_m) : y_R sp ph d 215 0 [some (y_bo 11 0 a0), some (y_bi x1), none, none, none, none, none, none, none] [] m = y_R sp ph d 215 2 [some (y_bo 11 0 a0), some (y_bi x1), some (y_bi 1), none, none, none, none, none, none] [] m := (y_R_eq (md := z_md_215) rfl rfl).trans rfl
set_option maxRecDepth 4000 in
theorem y_E_215_2 (d : Nat) (a0 : Nat) (x1 : Int) (x2 : Int) (m : y_m) : y_R sp ph d 215 2 [some (y_bo 11 0 a0), some (y_bi x1), some (y_bi x2), none, none, none, none, none, none] [] m = if 5 < z_w x2 then y_R sp ph d 215 199 [some (y_bo 11 0 a0), some (y_bi x1), none, none, none, none, none, none, none] [] m else y_g (0 ≤ x2 ∧ x2 < (6 : Int)) (if z_w (y_mI m 75 x2.toNat) = 1 then y_R sp ph d 215 21 [some (y_bo 11 0 a0), some (y_bi x1), some (y_bi x2), none, none, none, none, none, none] [] m else y_R sp ph d 215 22 [some (y_bo 11 0 a0), some (y_bi x1), some (y_bi x2), none, none, none, none, none, none] [y_bi 1] m) := (y_R_eq (md := z_md_215) rfl rfl).trans rfl
set_option maxRecDepth 4000 in
theorem y_E_215_21 (d : Nat) (a0 : Nat) (x1 : Int) (x2 : Int) (m : y_m) : y_R sp ph d 215 21 [some (y_bo 11 0 a0), some (y_bi x1), some (y_bi x2), none, none, none, none, none, none] [] m = y_R sp ph d 215 22 [some (y_bo 11 0 a0), some (y_bi x1), some (y_bi x2), none, none, none, none, none, none] [y_bi 0] m := (y_R_eq (md := z_md_215) rfl rfl).trans rfl
set_option maxRecDepth 4000 in
theorem y_E_215_22 (d : Nat) (a0 : Nat) (x1 : Int) (x2 : Int) (xs0 : Int) (m : y_m) : y_R sp ph d 215 22 [some (y_bo 11 0 a0), some (y_bi x1), some (y_bi x2), none, none, none, none, none, none] [y_bi xs0] m = y_R sp ph d 215 26 [some (y_bo 11 0 a0), some (y_bi x1), some (y_bi x2), some (y_bi xs0), some (y_bi 1), none, none, none, none] [] m := (y_R_eq (md := z_md_215) rfl rfl).trans rfl
set_option maxRecDepth 4000 in
theorem y_E_215_26 (d : Nat) (a0 : Nat) (x1 : Int) (x2 : Int) (x3 : Int) (x4 : Int) (m : y_m) : y_R sp ph d 215 26 [some (y_bo 11 0 a0), some (y_bi x1), some (y_bi x2), some (y_bi x3), some (y_bi x4), none, none, none, none] [] m = if z_w x2 ≤ z_w x4 then y_R sp ph d 215 64 [some (y_bo 11 0 a0), some (y_bi x1), some (y_bi x2), some (y_bi x3), none, none, none, none, none] [] m else if z_w x3 = 0 then y_R sp ph d 215 56 [some (y_bo 11 0 a0), some (y_bi x1), some (y_bi x2), none, some (y_bi x4), none, none, none, none] [] m else y_g (0 ≤ x4 ∧ x4 < (6 : Int)) (y_g (0 ≤ x2 ∧ x2 < (6 : Int)) (if z_w (y_mI m 75 x4.toNat) = z_w (y_mI m 75 x2.toNat) then y_R sp ph d 215 56 [some (y_bo 11 0 a0), some (y_bi x1), some (y_bi x2), none, some (y_bi x4), none, none, none, none] [] m else y_R sp ph d 215 57 [some (y_bo 11 0 a0), some (y_bi x1), some (y_bi x2), none, some (y_bi x4), none, none, none, none] [y_bi 1] m)) := (y_R_eq (md := z_md_215) rfl rfl).trans rfl
set_option maxRecDepth 4000 in
theorem y_E_215_56 (d : Nat) (a0 : Nat) (x1 : Int) (x2 : Int) (x4 : Int) (m : y_m) : y_R sp ph d 215 56 [some (y_bo 11 0 a0), some (y_bi x1), some (y_bi x2), none, some (y_bi x4), none, none, none, none] [] m = y_R sp ph d 215 57 [some (y_bo 11 0 a0), some (y_bi x1), some (y_bi x2), none, some (y_bi x4), none, none, none, none] [y_bi 0] m := (y_R_eq (md := z_md_215) rfl rfl).trans rfl
set_option maxRecDepth 4000 in
theorem y_E_215_57 (d : Nat) (a0 : Nat) (x1 : Int) (x2 : Int) (x4 : Int) (xs0 : Int) (m : y_m) : y_R sp ph d 215 57 [some (y_bo 11 0 a0), some (y_bi x1), some (y_bi x2), none, some (y_bi x4), none, none, none, none] [y_bi xs0] m = y_R sp ph d 215 26 [some (y_bo 11 0 a0), some (y_bi x1), some (y_bi x2), some (y_bi xs0), some (y_bi (x4 + 1)), none, none, none, none] [] m := (y_R_eq (md := z_md_215) rfl rfl).trans rfl
set_option maxRecDepth 4000 in
theorem y_E_215_64 (d : Nat) (a0 : Nat) (x1 : Int) (x2 : Int) (x3 : Int) (m : y_m) : y_R sp ph d 215 64 [some (y_bo 11 0 a0), some (y_bi x1), some (y_bi x2), some (y_bi x3), none, none, none, none, none] [] m = if ¬ z_w x3 = 0 then y_R sp ph d 215 71 [some (y_bo 11 0 a0), some (y_bi x1), some (y_bi x2), none, none, none, none, none, none] [] m else y_R sp ph d 215 193 [some (y_bo 11 0 a0), some (y_bi x1), some (y_bi x2), none, none, none, none, none, none] [] m := (y_R_eq (md := z_md_215) rfl rfl).trans rfl
set_option maxRecDepth 4000 in
theorem y_E_215_71 (d : Nat) (a0 : Nat) (x1 : Int) (x2 : Int) (m : y_m) : y_R sp ph d 215 71 [some (y_bo 11 0 a0), some (y_bi x1), some (y_bi x2), none, none, none, none, none, none] [] m = y_R sp ph d 215 80 [some (y_bo 11 0 a0), some (y_bi x1), some (y_bi x2), none, some (y_bl 0), none, some (y_bl 1), none, some (y_bi x2)] [] m := (y_R_eq (md := z_md_215) rfl rfl).trans rfl
set_option maxRecDepth 4000 in
theorem y_E_215_80 (d : Nat) (a0 : Nat) (x1 : Int) (x2 : Int) (x4 : Int) (x6 : Int) (x8 : Int) (m : y_m) : y_R sp ph d 215 80 [some (y_bo 11 0 a0), some (y_bi x1), some (y_bi x2), none, some (y_bl x4), none, some (y_bl x6), none, some (y_bi x8)] [] m = if 5 < z_w x8 then y_R sp ph d 215 184 [some (y_bo 11 0 a0), some (y_bi x1), some (y_bi x2), none, some (y_bl x4), none, none, none, none] [] m else y_g (0 ≤ x8 ∧ x8 < (6 : Int)) (y_g (0 ≤ x2 ∧ x2 < (6 : Int)) (if z_w (y_mI m 75 x8.toNat) = z_w (y_mI m 75 x2.toNat) then y_R sp ph d 215 105 [some (y_bo 11 0 a0), some (y_bi x1), some (y_bi x2), none, some (y_bl x4), none, some (y_bl x6), none, some (y_bi x8)] [] m else y_R sp ph d 215 178 [some (y_bo 11 0 a0), some (y_bi x1), some (y_bi x2), none, some (y_bl x4), none, some (y_bl x6), none, some (y_bi x8)] [] m)) := (y_R_eq (md := z_md_215) rfl rfl).trans rfl
set_option maxRecDepth 4000 in
theorem y_E_215_105 (d : Nat) (a0 : Nat) (x1 : Int) (x2 : Int) (x4 : Int) (x6 : Int) (x8 : Int) (m : y_m) : y_R sp ph d 215 105 [some (y_bo 11 0 a0), some (y_bi x1), some (y_bi x2), none, some (y_bl x4), none, some (y_bl x6), none, some (y_bi x8)] [] m = if z_w x1 = 0 then y_R sp ph d 215 135 [some (y_bo 11 0 a0), some (y_bi x1), some (y_bi x2), none, some (y_bl x4), none, some (y_bl x6), none, some (y_bi x8)] [] m else y_g (0 ≤ x8 ∧ x8 < (6 : Int)) (y_g (0 ≤ x8 ∧ x8 < (6 : Int)) (y_R sp ph d 215 155 [some (y_bo 11 0 a0), some (y_bi x1), some (y_bi x2), none, none, none, some (y_bl x6), none, some (y_bi x8)] [y_bl ((x4 * (z_w (y_mI m 74 x8.toNat))) + ((z_w (y_mI m 92 x8.toNat)) * x6))] m)) := (y_R_eq (md := z_md_215) rfl rfl).trans rfl
set_option maxRecDepth 4000 in
theorem y_E_215_135 (d : Nat) (a0 : Nat) (x1 : Int) (x2 : Int) (x4 : Int) (x6 : Int) (x8 : Int) (m : y_m) : y_R sp ph d 215 135 [some (y_bo 11 0 a0), some (y_bi x1), some (y_bi x2), none, some (y_bl x4), none, some (y_bl x6), none, some (y_bi x8)] [] m = y_g (0 ≤ x8 ∧ x8 < (6 : Int)) (y_g (0 ≤ x8 ∧ x8 < (6 : Int)) (y_R sp ph d 215 155 [some (y_bo 11 0 a0), some (y_bi x1), some (y_bi x2), none, none, none, some (y_bl x6), none, some (y_bi x8)] [y_bl (x4 + ((z_w (y_mI m 92 x8.toNat)) * (z_w (y_mI m 74 x8.toNat))))] m)) := (y_R_eq (md := z_md_215) rfl rfl).trans rfl
set_option maxRecDepth 4000 in
theorem y_E_215_155 (d : Nat) (a0 : Nat) (x1 : Int) (x2 : Int) (x6 : Int) (x8 : Int) (xs0 : Int) (m : y_m) : y_R sp ph d 215 155 [some (y_bo 11 0 a0), some (y_bi x1), some (y_bi x2), none, none, none, some (y_bl x6), none, some (y_bi x8)] [y_bl xs0] m = if z_w x1 = 0 then y_R sp ph d 215 174 [some (y_bo 11 0 a0), some (y_bi x1), some (y_bi x2), none, some (y_bl xs0), none, none, none, some (y_bi x8)] [y_bl x6] m else y_g (0 ≤ x8 ∧ x8 < (6 : Int)) (y_R sp ph d 215 175 [some (y_bo 11 0 a0), some (y_bi x1), some (y_bi x2), none, some (y_bl xs0), none, none, none, some (y_bi x8)] [y_bl (z_w (y_mI m 74 x8.toNat)), y_bl x6] m) := (y_R_eq (md := z_md_215) rfl rfl).trans rfl
set_option maxRecDepth 4000 in
theorem y_E_215_174 (d : Nat) (a0 : Nat) (x1 : Int) (x2 : Int) (x4 : Int) (x8 : Int) (xs0 : Int) (m : y_m) : y_R sp ph d 215 174 [some (y_bo 11 0 a0), some (y_bi x1), some (y_bi x2), none, some (y_bl x4), none, none, none, some (y_bi x8)] [y_bl xs0] m = y_R sp ph d 215 175 [some (y_bo 11 0 a0), some (y_bi x1), some (y_bi x2), none, some (y_bl x4), none, none, none, some (y_bi x8)] [y_bl 1, y_bl xs0] m := (y_R_eq (md := z_md_215) rfl rfl).trans rfl
set_option maxRecDepth 4000 in
theorem y_E_215_175 (d : Nat) (a0 : Nat) (x1 : Int) (x2 : Int) (x4 : Int) (x8 : Int) (xs0 : Int) (xs1 : Int) (m : y_m) : y_R sp ph d 215 175 [some (y_bo 11 0 a0), some (y_bi x1), some (y_bi x2), none, some (y_bl x4), none, none, none, some (y_bi x8)] [y_bl xs0, y_bl xs1] m = y_R sp ph d 215 178 [some (y_bo 11 0 a0), some (y_bi x1), some (y_bi x2), none, some (y_bl x4), none, some (y_bl (xs1 * xs0)), none, some (y_bi x8)] [] m := (y_R_eq (md := z_md_215) rfl rfl).trans rfl
set_option maxRecDepth 4000 in
theorem y_E_215_178 (d : Nat) (a0 : Nat) (x1 : Int) (x2 : Int) (x4 : Int) (x6 : Int) (x8 : Int) (m : y_m) : y_R sp ph d 215 178 [some (y_bo 11 0 a0), some (y_bi x1), some (y_bi x2), none, some (y_bl x4), none, some (y_bl x6), none, some (y_bi x8)] [] m = y_R sp ph d 215 80 [some (y_bo 11 0 a0), some (y_bi x1), some (y_bi x2), none, some (y_bl x4), none, some (y_bl x6), none, some (y_bi (x8 + 1))] [] m := (y_R_eq (md := z_md_215) rfl rfl).trans rfl
set_option maxRecDepth 4000 in
theorem y_E_215_184 (d : Nat) (a0 : Nat) (x1 : Int) (x2 : Int) (x4 : Int) (m : y_m) : y_R sp ph d 215 184 [some (y_bo 11 0 a0), some (y_bi x1), some (y_bi x2), none, some (y_bl x4), none, none, none, none] [] m = if z_w (z_lcmp x4 0) = 0 then y_R sp ph d 215 193 [some (y_bo 11 0 a0), some (y_bi x1), some (y_bi x2), none, none, none, none, none, none] [] m else y_rI 0 m := (y_R_eq (md := z_md_215) rfl rfl).trans rfl
set_option maxRecDepth 4000 in
theorem y_E_215_193 (d : Nat) (a0 : Nat) (x1 : Int) (x2 : Int) (m : y_m) : y_R sp ph d 215 193 [some (y_bo 11 0 a0), some (y_bi x1), some (y_bi x2), none, none, none, none, none, none] [] m = y_R sp ph d 215 2 [some (y_bo 11 0 a0), some (y_bi x1), some (y_bi (x2 + 1)), none, none, none, none, none, none] [] m := (y_R_eq (md := z_md_215) rfl rfl).trans rfl
set_option maxRecDepth 4000 in
theorem y_E_215_199 (d : Nat) (a0 : Nat) (x1 : Int) (m : y_m) : y_R sp ph d 215 199 [some (y_bo 11 0 a0), some (y_bi x1), none, none, none, none, none, none, none] [] m = y_R sp ph d 215 213 [some (y_bo 11 0 a0), some (y_bi x1), some (y_bl (z_w (y_mI m 92 0))), none, some (y_bl 1), none, some (y_bi 1), none, none] [] m := (y_R_eq (md := z_md_215) rfl rfl).trans rfl
set_option maxRecDepth 4000 in
theorem y_E_215_213 (d : Nat) (a0 : Nat) (x1 : Int) (x2 : Int) (x4 : Int) (x6 : Int) (m : y_m) : y_R sp ph d 215 213 [some (y_bo 11 0 a0), some (y_bi x1), some (y_bl x2), none, some (y_bl x4), none, some (y_bi x6), none, none] [] m = if 5 < z_w x6 then y_R sp ph d 215 317 [none, none, some (y_bl x2), none, none, none, none, none, none] [] m else y_g (0 ≤ x6 ∧ x6 < (6 : Int)) (if z_w (y_mI m 75 x6.toNat) = 1 then y_R sp ph d 215 233 [some (y_bo 11 0 a0), some (y_bi x1), some (y_bl x2), none, some (y_bl x4), none, some (y_bi x6), none, none] [] m else y_R sp ph d 215 311 [some (y_bo 11 0 a0), some (y_bi x1), some (y_bl x2), none, some (y_bl x4), none, some (y_bi x6), none, none] [] m) := (y_R_eq (md := z_md_215) rfl rfl).trans rfl
set_option maxRecDepth 4000 in
theorem y_E_215_233 (d : Nat) (a0 : Nat) (x1 : Int) (x2 : Int) (x4 : Int) (x6 : Int) (m : y_m) : y_R sp ph d 215 233 [some (y_bo 11 0 a0), some (y_bi x1), some (y_bl x2), none, some (y_bl x4), none, some (y_bi x6), none, none] [] m = if z_w x1 = 0 then y_R sp ph d 215 270 [some (y_bo 11 0 a0), some (y_bi x1), some (y_bl x2), none, some (y_bl x4), none, some (y_bi x6), none, none] [] m else y_g (0 ≤ x6 ∧ x6 < (6 : Int)) (y_g (0 ≤ x6 ∧ x6 < (6 : Int)) (y_R sp ph d 215 289 [some (y_bo 11 0 a0), some (y_bi x1), none, none, some (y_bl x4), none, some (y_bi x6), none, none] [y_bl ((x2 * (z_w (y_mI m 74 x6.toNat))) + (((z_w (y_mI m 92 x6.toNat)) * (z_w (y_mI m 52 2))) * x4))] m)) := (y_R_eq (md := z_md_215) rfl rfl).trans rfl
set_option maxRecDepth 4000 in
theorem y_E_215_270 (d : Nat) (a0 : Nat) (x1 : Int) (x2 : Int) (x4 : Int) (x6 : Int) (m : y_m) : y_R sp ph d 215 270 [some (y_bo 11 0 a0), some (y_bi x1), some (y_bl x2), none, some (y_bl x4), none, some (y_bi x6), none, none] [] m = y_g (0 ≤ x6 ∧ x6 < (6 : Int)) (y_g (0 ≤ x6 ∧ x6 < (6 : Int)) (y_R sp ph d 215 289 [some (y_bo 11 0 a0), some (y_bi x1), none, none, some (y_bl x4), none, some (y_bi x6), none, none] [y_bl (x2 + ((z_w (y_mI m 92 x6.toNat)) * (z_w (y_mI m 74 x6.toNat))))] m)) := (y_R_eq (md := z_md_215) rfl rfl).trans rfl
set_option maxRecDepth 4000 in
theorem y_E_215_289 (d : Nat) (a0 : Nat) (x1 : Int) (x4 : Int) (x6 : Int) (xs0 : Int) (m : y_m) : y_R sp ph d 215 289 [some (y_bo 11 0 a0), some (y_bi x1), none, none, some (y_bl x4), none, some (y_bi x6), none, none] [y_bl xs0] m = if z_w x1 = 0 then y_R sp ph d 215 307 [some (y_bo 11 0 a0), some (y_bi x1), some (y_bl xs0), none, none, none, some (y_bi x6), none, none] [y_bl x4] m else y_g (0 ≤ x6 ∧ x6 < (6 : Int)) (y_R sp ph d 215 308 [some (y_bo 11 0 a0), some (y_bi x1), some (y_bl xs0), none, none, none, some (y_bi x6), none, none] [y_bl (z_w (y_mI m 74 x6.toNat)), y_bl x4] m) := (y_R_eq (md := z_md_215) rfl rfl).trans rfl
set_option maxRecDepth 4000 in
theorem y_E_215_307 (d : Nat) (a0 : Nat) (x1 : Int) (x2 : Int) (x6 : Int) (xs0 : Int) (m : y_m) : y_R sp ph d 215 307 [some (y_bo 11 0 a0), some (y_bi x1), some (y_bl x2), none, none, none, some (y_bi x6), none, none] [y_bl xs0] m = y_R sp ph d 215 308 [some (y_bo 11 0 a0), some (y_bi x1), some (y_bl x2), none, none, none, some (y_bi x6), none, none] [y_bl 1, y_bl xs0] m := (y_R_eq (md := z_md_215) rfl rfl).trans rfl
set_option maxRecDepth 4000 in
theorem y_E_215_308 (d : Nat) (a0 : Nat) (x1 : Int) (x2 : Int) (x6 : Int) (xs0 : Int) (xs1 : Int) (m : y_m) : y_R sp ph d 215 308 [some (y_bo 11 0 a0), some (y_bi x1), some (y_bl x2), none, none, none, some (y_bi x6), none, none] [y_bl xs0, y_bl xs1] m = y_R sp ph d 215 311 [some (y_bo 11 0 a0), some (y_bi x1), some (y_bl x2), none, some (y_bl (xs1 * xs0)), none, some (y_bi x6), none, none] [] m := (y_R_eq (md := z_md_215) rfl rfl).trans rfl
set_option maxRecDepth 4000 in
theorem y_E_215_311 (d : Nat) (a0 : Nat) (x1 : Int) (x2 : Int) (x4 : Int) (x6 : Int) (m : y_m) : y_R sp ph d 215 311 [some (y_bo 11 0 a0), some (y_bi x1), some (y_bl x2), none, some (y_bl x4), none, some (y_bi x6), none, none] [] m = y_R sp ph d 215 213 [some (y_bo 11 0 a0), some (y_bi x1), some (y_bl x2), none, some (y_bl x4), none, some (y_bi (x6 + 1)), none, none] [] m := (y_R_eq (md := z_md_215) rfl rfl).trans rfl
set_option maxRecDepth 4000 in
theorem y_E_215_317 (d : Nat) (x2 : Int) (m : y_m) : y_R sp ph d 215 317 [none, none, some (y_bl x2), none, none, none, none, none, none] [] m = if ¬ z_w (z_lcmp x2 0) = 0 then y_R sp ph d 215 327 [none, none, none, none, none, none, none, none, none] [] m else y_R sp ph d 215 328 [none, none, none, none, none, none, none, none, none] [y_bi 1] m := (y_R_eq (md := z_md_215) rfl rfl).trans rfl
set_option maxRecDepth 4000 in
theorem y_E_215_327 (d : Nat) (m : y_m) : y_R sp ph d 215 327 [none, none, none, none, none, none, none, none, none] [] m = y_R sp ph d 215 328 [none, none, none, none, none, none, none, none, none] [y_bi 0] m := (y_R_eq (md := z_md_215) rfl rfl).trans rfl
set_option maxRecDepth 4000 in
theorem y_E_215_328 (d : Nat) (xs0 : Int) (m : y_m) : y_R sp ph d 215 328 [none, none, none, none, none, none, none, none, none] [y_bi xs0] m = y_g (xs0 = 0 ∨ xs0 = 1) (y_rI xs0 m) := (y_R_eq (md := z_md_215) rfl rfl).trans rfl
set_option maxRecDepth 4000 in
theorem y_C_215 (d : Nat) (a0 : Nat) (x1 : Int) (m : y_m) : y_V sp ph (d + 1) 215 [y_bo 11 0 a0, y_bi x1] m = y_R sp ph d 215 0 [some (y_bo 11 0 a0), some (y_bi x1), none, none, none, none, none, none, none] [] m := (y_V_eq (md := z_md_215) rfl rfl rfl).trans rfl
/-! LacedHolesModel.laysPlaces (Z)V -/
set_option maxRecDepth 4000 in
theorem y_E_216_0 (d : Nat) (a0 : Nat) (x1 : Int) (m : y_m) : y_R sp ph d 216 0 [some (y_bo 11 0 a0), some (y_bi x1), none, none, none] [] m = y_R sp ph d 216 2 [some (y_bo 11 0 a0), some (y_bi x1), some (y_bi 0), none, none] [] m := (y_R_eq (md := z_md_216) rfl rfl).trans rfl
set_option maxRecDepth 4000 in
theorem y_E_216_2 (d : Nat) (a0 : Nat) (x1 : Int) (x2 : Int) (m : y_m) : y_R sp ph d 216 2 [some (y_bo 11 0 a0), some (y_bi x1), some (y_bi x2), none, none] [] m = if 228 ≤ z_w x2 then y_R sp ph d 216 92 [some (y_bo 11 0 a0), none, none, none, none] [] m else if ¬ z_w x2 = 7 then y_R sp ph d 216 30 [some (y_bo 11 0 a0), some (y_bi x1), some (y_bi x2), none, none] [y_bi x2, y_bo 101 228 93] m else y_R sp ph d 216 31 [some (y_bo 11 0 a0), some (y_bi x1), some (y_bi x2), none, none] [y_bl (z_w (y_mI m 92 0)), y_bi x2, y_bo 101 228 93] m := (y_R_eq (md := z_md_216) rfl rfl).trans rfl
set_option maxRecDepth 4000 in
theorem y_E_216_30 (d : Nat) (a0 : Nat) (x1 : Int) (x2 : Int) (xs0 : Int) (as1 : Nat) (m : y_m) : y_R sp ph d 216 30 [some (y_bo 11 0 a0), some (y_bi x1), some (y_bi x2), none, none] [y_bi xs0, y_bo 101 228 as1] m = y_R sp ph d 216 31 [some (y_bo 11 0 a0), some (y_bi x1), some (y_bi x2), none, none] [y_bl 0, y_bi xs0, y_bo 101 228 as1] m := (y_R_eq (md := z_md_216) rfl rfl).trans rfl
set_option maxRecDepth 4000 in
theorem y_E_216_31 (d : Nat) (a0 : Nat) (x1 : Int) (x2 : Int) (xs0 : Int) (xs1 : Int) (as2 : Nat) (m : y_m) : y_R sp ph d 216 31 [some (y_bo 11 0 a0), some (y_bi x1), some (y_bi x2), none, none] [y_bl xs0, y_bi xs1, y_bo 101 228 as2] m = y_g (0 ≤ xs1 ∧ xs1 < (228 : Int)) (y_R sp ph d 216 34 [some (y_bo 11 0 a0), some (y_bi x1), some (y_bi x2), some (y_bi 1), none] [] (y_sJ m as2 xs1.toNat xs0)) := (y_R_eq (md := z_md_216) rfl rfl).trans rfl
set_option maxRecDepth 4000 in
theorem y_E_216_34 (d : Nat) (a0 : Nat) (x1 : Int) (x2 : Int) (x3 : Int) (m : y_m) : y_R sp ph d 216 34 [some (y_bo 11 0 a0), some (y_bi x1), some (y_bi x2), some (y_bi x3), none] [] m = if 5 < z_w x3 then y_R sp ph d 216 86 [some (y_bo 11 0 a0), some (y_bi x1), some (y_bi x2), none, none] [] m else y_g (0 ≤ x2 ∧ x2 < (228 : Int)) (y_g (0 ≤ x3 ∧ x3 < (6 : Int)) (if z_w x1 = 0 then y_R sp ph d 216 68 [some (y_bo 11 0 a0), some (y_bi x1), some (y_bi x2), some (y_bi x3), none] [y_bl (z_w (y_mI m 92 x3.toNat)), y_bl (y_mJ m 93 x2.toNat), y_bi x2, y_bo 101 228 93] m else y_g (0 ≤ x3 ∧ x3 < (6 : Int)) (y_g (0 ≤ x2 ∧ x2 < (228 : Int)) (y_R sp ph d 216 76 [some (y_bo 11 0 a0), some (y_bi x1), some (y_bi x2), some (y_bi x3), none] [y_bi (y_mI m (84 + 1 * x3.toNat) x2.toNat), y_bl (z_w (y_mI m 92 x3.toNat)), y_bl (y_mJ m 93 x2.toNat), y_bi x2, y_bo 101 228 93] m)))) := (y_R_eq (md := z_md_216) rfl rfl).trans rfl
set_option maxRecDepth 4000 in
theorem y_E_216_68 (d : Nat) (a0 : Nat) (x1 : Int) (x2 : Int) (x3 : Int) (xs0 : Int) (xs1 : Int) (xs2 : Int) (as3 : Nat) (m : y_m) : y_R sp ph d 216 68 [some (y_bo 11 0 a0), some (y_bi x1), some (y_bi x2), some (y_bi x3), none] [y_bl xs0, y_bl xs1, y_bi xs2, y_bo 101 228 as3] m = y_g (0 ≤ x3 ∧ x3 < (6 : Int)) (y_g (0 ≤ x2 ∧ x2 < (228 : Int)) (y_R sp ph d 216 76 [some (y_bo 11 0 a0), some (y_bi x1), some (y_bi x2), some (y_bi x3), none] [y_bi (y_mI m (77 + 1 * x3.toNat) x2.toNat), y_bl xs0, y_bl xs1, y_bi xs2, y_bo 101 228 as3] m)) := (y_R_eq (md := z_md_216) rfl rfl).trans rfl
set_option maxRecDepth 4000 in
theorem y_E_216_76 (d : Nat) (a0 : Nat) (x1 : Int) (x2 : Int) (x3 : Int) (xs0 : Int) (xs1 : Int) (xs2 : Int) (xs3 : Int) (as4 : Nat) (m : y_m) : y_R sp ph d 216 76 [some (y_bo 11 0 a0), some (y_bi x1), some (y_bi x2), some (y_bi x3), none] [y_bi xs0, y_bl xs1, y_bl xs2, y_bi xs3, y_bo 101 228 as4] m = y_g (0 ≤ xs3 ∧ xs3 < (228 : Int)) (y_R sp ph d 216 34 [some (y_bo 11 0 a0), some (y_bi x1), some (y_bi x2), some (y_bi (x3 + 1)), none] [] (y_sJ m as4 xs3.toNat (xs2 + (xs1 * (z_w xs0))))) := (y_R_eq (md := z_md_216) rfl rfl).trans rfl
set_option maxRecDepth 4000 in
theorem y_E_216_86 (d : Nat) (a0 : Nat) (x1 : Int) (x2 : Int) (m : y_m) : y_R sp ph d 216 86 [some (y_bo 11 0 a0), some (y_bi x1), some (y_bi x2), none, none] [] m = y_R sp ph d 216 2 [some (y_bo 11 0 a0), some (y_bi x1), some (y_bi (x2 + 1)), none, none] [] m := (y_R_eq (md := z_md_216) rfl rfl).trans rfl
set_option maxRecDepth 4000 in
theorem y_E_216_92 (d : Nat) (a0 : Nat) (m : y_m) : y_R sp ph d 216 92 [some (y_bo 11 0 a0), none, none, none, none] [] m = y_R sp ph d 216 96 [some (y_bo 11 0 a0), none, some (y_bi 227), none, none] [] m := (y_R_eq (md := z_md_216) rfl rfl).trans rfl
set_option maxRecDepth 4000 in
theorem y_E_216_96 (d : Nat) (a0 : Nat) (x2 : Int) (m : y_m) : y_R sp ph d 216 96 [some (y_bo 11 0 a0), none, some (y_bi x2), none, none] [] m = if z_w x2 ≤ 0 then y_R sp ph d 216 162 [none, none, none, none, none] [] m else y_g (0 ≤ x2 ∧ x2 < (228 : Int)) (y_g (0 ≤ x2 ∧ x2 < (228 : Int)) (if 0 ≤ z_w (z_lcmp (y_mJ m 93 x2.toNat) (10 * (z_ldiv (y_mJ m 93 x2.toNat) 10))) then y_R sp ph d 216 130 [some (y_bo 11 0 a0), none, some (y_bi x2), some (y_bl (z_ldiv (y_mJ m 93 x2.toNat) 10)), none] [] m else y_R sp ph d 216 130 [some (y_bo 11 0 a0), none, some (y_bi x2), some (y_bl ((z_ldiv (y_mJ m 93 x2.toNat) 10) - 1)), none] [] m)) := (y_R_eq (md := z_md_216) rfl rfl).trans rfl
set_option maxRecDepth 4000 in
theorem y_E_216_130 (d : Nat) (a0 : Nat) (x2 : Int) (x3 : Int) (m : y_m) : y_R sp ph d 216 130 [some (y_bo 11 0 a0), none, some (y_bi x2), some (y_bl x3), none] [] m = y_g (0 ≤ x2 ∧ x2 < (228 : Int)) (y_g (0 ≤ x2 ∧ x2 < (228 : Int)) (y_g (0 ≤ x2 - 1 ∧ x2 - 1 < (228 : Int)) (y_g (0 ≤ x2 - 1 ∧ x2 - 1 < (228 : Int)) (y_R sp ph d 216 96 [some (y_bo 11 0 a0), none, some (y_bi (x2 + (-1))), none, none] [] (y_sJ (y_sJ m 93 x2.toNat ((y_mJ m 93 x2.toNat) - (10 * x3))) 93 (x2 - 1).toNat ((y_mJ (y_sJ m 93 x2.toNat ((y_mJ m 93 x2.toNat) - (10 * x3))) 93 (x2 - 1).toNat) + x3)))))) := (y_R_eq (md := z_md_216) rfl rfl).trans rfl
set_option maxRecDepth 4000 in
theorem y_E_216_162 (d : Nat) (m : y_m) : y_R sp ph d 216 162 [none, none, none, none, none] [] m = y_rV m := (y_R_eq (md := z_md_216) rfl rfl).trans rfl
set_option maxRecDepth 4000 in
theorem y_C_216 (d : Nat) (a0 : Nat) (x1 : Int) (m : y_m) : y_V sp ph (d + 1) 216 [y_bo 11 0 a0, y_bi x1] m = y_R sp ph d 216 0 [some (y_bo 11 0 a0), some (y_bi x1), none, none, none] [] m := (y_V_eq (md := z_md_216) rfl rfl rfl).trans rfl
/-! LacedHolesModel.signOfSum (Z)I -/
set_option maxRecDepth 4000 in
theorem y_E_217_0 (d : Nat) (a0 : Nat) (x1 : Int) (m : y_m) : y_R sp ph d 217 0 [some (y_bo 11 0 a0), some (y_bi x1), none, none, none] [] m = y_R sp ph d 217 15 [some (y_bo 11 0 a0), some (y_bi x1), some (y_bl ((z_w (y_mI m 92 0)) * 1000000000000)), none, some (y_bi 1)] [] m := (y_R_eq (md := z_md_217) rfl rfl).trans rfl
set_option maxRecDepth 4000 in
theorem y_E_217_15 (d : Nat) (a0 : Nat) (x1 : Int) (x2 : Int) (x4 : Int) (m : y_m) : y_R sp ph d 217 15 [some (y_bo 11 0 a0), some (y_bi x1), some (y_bl x2), none, some (y_bi x4)] [] m = if 5 < z_w x4 then y_R sp ph d 217 60 [some (y_bo 11 0 a0), some (y_bi x1), some (y_bl x2), none, none] [] m else y_g (0 ≤ x4 ∧ x4 < (6 : Int)) (if z_w x1 = 0 then y_R sp ph d 217 44 [some (y_bo 11 0 a0), some (y_bi x1), none, none, some (y_bi x4)] [y_bl (z_w (y_mI m 92 x4.toNat)), y_bl x2] m else y_g (0 ≤ x4 ∧ x4 < (6 : Int)) (y_R sp ph d 217 51 [some (y_bo 11 0 a0), some (y_bi x1), none, none, some (y_bi x4)] [y_bl (y_mJ m 72 x4.toNat), y_bl (z_w (y_mI m 92 x4.toNat)), y_bl x2] m)) := (y_R_eq (md := z_md_217) rfl rfl).trans rfl
set_option maxRecDepth 4000 in
theorem y_E_217_44 (d : Nat) (a0 : Nat) (x1 : Int) (x4 : Int) (xs0 : Int) (xs1 : Int) (m : y_m) : y_R sp ph d 217 44 [some (y_bo 11 0 a0), some (y_bi x1), none, none, some (y_bi x4)] [y_bl xs0, y_bl xs1] m = y_g (0 ≤ x4 ∧ x4 < (6 : Int)) (y_R sp ph d 217 51 [some (y_bo 11 0 a0), some (y_bi x1), none, none, some (y_bi x4)] [y_bl (y_mJ m 71 x4.toNat), y_bl xs0, y_bl xs1] m) := (y_R_eq (md := z_md_217) rfl rfl).trans rfl
set_option maxRecDepth 4000 in
theorem y_E_217_51 (d : Nat) (a0 : Nat) (x1 : Int) (x4 : Int) (xs0 : Int) (xs1 : Int) (xs2 : Int) (m : y_m) : y_R sp ph d 217 51 [some (y_bo 11 0 a0), some (y_bi x1), none, none, some (y_bi x4)] [y_bl xs0, y_bl xs1, y_bl xs2] m = y_R sp ph d 217 15 [some (y_bo 11 0 a0), some (y_bi x1), some (y_bl (xs2 + (xs1 * xs0))), none, some (y_bi (x4 + 1))] [] m := (y_R_eq (md := z_md_217) rfl rfl).trans rfl
set_option maxRecDepth 4000 in
theorem y_E_217_60 (d : Nat) (a0 : Nat) (x1 : Int) (x2 : Int) (m : y_m) : y_R sp ph d 217 60 [some (y_bo 11 0 a0), some (y_bi x1), some (y_bl x2), none, none] [] m = if 0 < z_w (z_lcmp x2 1000) then y_R sp ph d 217 76 [none, none, some (y_bl x2), none, none] [] m else if 0 ≤ z_w (z_lcmp x2 (-1000)) then y_R sp ph d 217 88 [some (y_bo 11 0 a0), some (y_bi x1), none, none, none] [] m else y_R sp ph d 217 76 [none, none, some (y_bl x2), none, none] [] m := (y_R_eq (md := z_md_217) rfl rfl).trans rfl
set_option maxRecDepth 4000 in
theorem y_E_217_76 (d : Nat) (x2 : Int) (m : y_m) : y_R sp ph d 217 76 [none, none, some (y_bl x2), none, none] [] m = if z_w (z_lcmp x2 0) ≤ 0 then y_R sp ph d 217 86 [none, none, none, none, none] [] m else y_R sp ph d 217 87 [none, none, none, none, none] [y_bi 1] m := (y_R_eq (md := z_md_217) rfl rfl).trans rfl
set_option maxRecDepth 4000 in
theorem y_E_217_86 (d : Nat) (m : y_m) : y_R sp ph d 217 86 [none, none, none, none, none] [] m = y_R sp ph d 217 87 [none, none, none, none, none] [y_bi (-1)] m := (y_R_eq (md := z_md_217) rfl rfl).trans rfl
set_option maxRecDepth 4000 in
theorem y_E_217_87 (d : Nat) (xs0 : Int) (m : y_m) : y_R sp ph d 217 87 [none, none, none, none, none] [y_bi xs0] m = y_rI xs0 m := (y_R_eq (md := z_md_217) rfl rfl).trans rfl
set_option maxRecDepth 4000 in
theorem y_E_217_88 (d : Nat) (a0 : Nat) (x1 : Int) (m : y_m) : y_R sp ph d 217 88 [some (y_bo 11 0 a0), some (y_bi x1), none, none, none] [] m = y_bI (y_V sp ph d 215 [y_bo 11 0 a0, y_bi x1] m) (fun v1 m1 => if z_w v1 = 0 then y_R sp ph d 217 98 [some (y_bo 11 0 a0), some (y_bi x1), none, none, none] [] m1 else y_rI 0 m1) (fun e m1 => y_px e m1) := by
  rw [y_R_eq (md := z_md_217) rfl rfl]
  exact (y_bIc fun v1 m1 => (y_sh (L' := [some (y_bo 11 0 a0), some (y_bi x1), none, none, none]) (S' := [y_bi v1]) rfl rfl rfl))
set_option maxRecDepth 4000 in
theorem y_E_217_98 (d : Nat) (a0 : Nat) (x1 : Int) (m : y_m) : y_R sp ph d 217 98 [some (y_bo 11 0 a0), some (y_bi x1), none, none, none] [] m = y_bV (y_V sp ph d 216 [y_bo 11 0 a0, y_bi x1] m) (fun m1 => if 0 ≤ z_w (z_lcmp (y_mJ m1 93 0) 0) then y_R sp ph d 217 118 [none, none, none, none, none] [] m1 else y_R sp ph d 217 119 [none, none, none, none, none] [y_bi (-1)] m1) (fun e m1 => y_px e m1) := by
  rw [y_R_eq (md := z_md_217) rfl rfl]
  exact (y_bVc fun m1 => (y_sh (L' := [some (y_bo 11 0 a0), some (y_bi x1), none, none, none]) (S' := []) rfl rfl rfl))
set_option maxRecDepth 4000 in
theorem y_E_217_118 (d : Nat) (m : y_m) : y_R sp ph d 217 118 [none, none, none, none, none] [] m = y_R sp ph d 217 119 [none, none, none, none, none] [y_bi 1] m := (y_R_eq (md := z_md_217) rfl rfl).trans rfl
set_option maxRecDepth 4000 in
theorem y_E_217_119 (d : Nat) (xs0 : Int) (m : y_m) : y_R sp ph d 217 119 [none, none, none, none, none] [y_bi xs0] m = y_rI xs0 m := (y_R_eq (md := z_md_217) rfl rfl).trans rfl
set_option maxRecDepth 4000 in
theorem y_C_217 (d : Nat) (a0 : Nat) (x1 : Int) (m : y_m) : y_V sp ph (d + 1) 217 [y_bo 11 0 a0, y_bi x1] m = y_R sp ph d 217 0 [some (y_bo 11 0 a0), some (y_bi x1), none, none, none] [] m := (y_V_eq (md := z_md_217) rfl rfl rfl).trans rfl
/-! LacedHolesModel.setAgainst (JJZ)I -/
set_option maxRecDepth 4000 in
theorem y_E_218_0 (d : Nat) (a0 : Nat) (x1 : Int) (x3 : Int) (x5 : Int) (m : y_m) : y_R sp ph d 218 0 [some (y_bo 11 0 a0), some (y_bl x1), none, some (y_bl x3), none, some (y_bi x5), none] [] m = if z_w x5 = 0 then y_R sp ph d 218 24 [some (y_bo 11 0 a0), some (y_bl x1), none, some (y_bl x3), none, some (y_bi x5), none] [y_bi 0, y_bo 100 6 92] m else y_bI (y_V sp ph d 214 [y_bl x1, y_bi 0] m) (fun v1 m1 => y_bI (y_V sp ph d 214 [y_bl x3, y_bi 0] m1) (fun v2 m2 => y_R sp ph d 218 33 [some (y_bo 11 0 a0), some (y_bl x1), none, some (y_bl x3), none, some (y_bi x5), none] [y_bi (v1 - v2), y_bi 0, y_bo 100 6 92] m2) (fun e m1 => y_px e m1)) (fun e m1 => y_px e m1) := by
  rw [y_R_eq (md := z_md_218) rfl rfl]
  exact (y_ic rfl (y_bIc fun v1 m1 => (y_sh (L' := [some (y_bo 11 0 a0), some (y_bl x1), none, some (y_bl x3), none, some (y_bi x5), none]) (S' := [y_bi v1, y_bi 0, y_bo 100 6 92]) rfl rfl (y_bIc fun v2 m2 => (y_sh (L' := [some (y_bo 11 0 a0), some (y_bl x1), none, some (y_bl x3), none, some (y_bi x5), none]) (S' := [y_bi v2, y_bi v1, y_bi 0, y_bo 100 6 92]) rfl rfl rfl)))))
set_option maxRecDepth 4000 in
theorem y_E_218_24 (d : Nat) (a0 : Nat) (x1 : Int) (x3 : Int) (x5 : Int) (xs0 : Int) (as1 : Nat) (m : y_m) : y_R sp ph d 218 24 [some (y_bo 11 0 a0), some (y_bl x1), none, some (y_bl x3), none, some (y_bi x5), none] [y_bi xs0, y_bo 100 6 as1] m = y_bI (y_V sp ph d 213 [y_bl x1] m) (fun v1 m1 => y_bI (y_V sp ph d 213 [y_bl x3] m1) (fun v2 m2 => y_R sp ph d 218 33 [some (y_bo 11 0 a0), some (y_bl x1), none, some (y_bl x3), none, some (y_bi x5), none] [y_bi (v1 - v2), y_bi xs0, y_bo 100 6 as1] m2) (fun e m1 => y_px e m1)) (fun e m1 => y_px e m1) := by
  rw [y_R_eq (md := z_md_218) rfl rfl]
  exact (y_bIc fun v1 m1 => (y_sh (L' := [some (y_bo 11 0 a0), some (y_bl x1), none, some (y_bl x3), none, some (y_bi x5), none]) (S' := [y_bi v1, y_bi xs0, y_bo 100 6 as1]) rfl rfl (y_bIc fun v2 m2 => (y_sh (L' := [some (y_bo 11 0 a0), some (y_bl x1), none, some (y_bl x3), none, some (y_bi x5), none]) (S' := [y_bi v2, y_bi v1, y_bi xs0, y_bo 100 6 as1]) rfl rfl rfl))))
set_option maxRecDepth 4000 in
theorem y_E_218_33 (d : Nat) (a0 : Nat) (x1 : Int) (x3 : Int) (x5 : Int) (xs0 : Int) (xs1 : Int) (as2 : Nat) (m : y_m) : y_R sp ph d 218 33 [some (y_bo 11 0 a0), some (y_bl x1), none, some (y_bl x3), none, some (y_bi x5), none] [y_bi xs0, y_bi xs1, y_bo 100 6 as2] m = y_g (0 ≤ xs1 ∧ xs1 < (6 : Int)) (y_R sp ph d 218 37 [some (y_bo 11 0 a0), some (y_bl x1), none, some (y_bl x3), none, some (y_bi x5), some (y_bi 1)] [] (y_sI m as2 xs1.toNat xs0)) := (y_R_eq (md := z_md_218) rfl rfl).trans rfl
set_option maxRecDepth 4000 in
theorem y_E_218_37 (d : Nat) (a0 : Nat) (x1 : Int) (x3 : Int) (x5 : Int) (x6 : Int) (m : y_m) : y_R sp ph d 218 37 [some (y_bo 11 0 a0), some (y_bl x1), none, some (y_bl x3), none, some (y_bi x5), some (y_bi x6)] [] m = if 5 < z_w x6 then y_R sp ph d 218 69 [some (y_bo 11 0 a0), none, none, none, none, some (y_bi x5), none] [] m else y_bI (y_V sp ph d 214 [y_bl x1, y_bi x6] m) (fun v1 m1 => y_bI (y_V sp ph d 214 [y_bl x3, y_bi x6] m1) (fun v2 m2 => y_g (0 ≤ x6 ∧ x6 < (6 : Int)) (y_R sp ph d 218 37 [some (y_bo 11 0 a0), some (y_bl x1), none, some (y_bl x3), none, some (y_bi x5), some (y_bi (x6 + 1))] [] (y_sI m2 92 x6.toNat (v1 - v2)))) (fun e m1 => y_px e m1)) (fun e m1 => y_px e m1) := by
  rw [y_R_eq (md := z_md_218) rfl rfl]
  exact (y_ic rfl (y_bIc fun v1 m1 => (y_sh (L' := [some (y_bo 11 0 a0), some (y_bl x1), none, some (y_bl x3), none, some (y_bi x5), some (y_bi x6)]) (S' := [y_bi v1, y_bi x6, y_bo 100 6 92]) rfl rfl (y_bIc fun v2 m2 => (y_sh (L' := [some (y_bo 11 0 a0), some (y_bl x1), none, some (y_bl x3), none, some (y_bi x5), some (y_bi x6)]) (S' := [y_bi v2, y_bi v1, y_bi x6, y_bo 100 6 92]) rfl rfl rfl)))))
set_option maxRecDepth 4000 in
theorem y_E_218_69 (d : Nat) (a0 : Nat) (x5 : Int) (m : y_m) : y_R sp ph d 218 69 [some (y_bo 11 0 a0), none, none, none, none, some (y_bi x5), none] [] m = y_bI (y_V sp ph d 217 [y_bo 11 0 a0, y_bi x5] m) (fun v1 m1 => y_rI v1 m1) (fun e m1 => y_px e m1) := by
  rw [y_R_eq (md := z_md_218) rfl rfl]
  exact (y_bIc fun v1 m1 => (y_sh (L' := [some (y_bo 11 0 a0), none, none, none, none, some (y_bi x5), none]) (S' := [y_bi v1]) rfl rfl rfl))
set_option maxRecDepth 4000 in
theorem y_C_218 (d : Nat) (a0 : Nat) (x1 : Int) (x3 : Int) (x5 : Int) (m : y_m) : y_V sp ph (d + 1) 218 [y_bo 11 0 a0, y_bl x1, y_bl x3, y_bi x5] m = y_R sp ph d 218 0 [some (y_bo 11 0 a0), some (y_bl x1), none, some (y_bl x3), none, some (y_bi x5), none] [] m := (y_V_eq (md := z_md_218) rfl rfl rfl).trans rfl
/-! LacedHolesModel.isBetter (JJI)Z -/
set_option maxRecDepth 4000 in
theorem y_E_219_0 (d : Nat) (a0 : Nat) (x1 : Int) (x3 : Int) (x5 : Int) (m : y_m) : y_R sp ph d 219 0 [some (y_bo 11 0 a0), some (y_bl x1), none, some (y_bl x3), none, some (y_bi x5)] [] m = if ¬ z_w x5 = 0 then y_R sp ph d 219 23 [some (y_bo 11 0 a0), some (y_bl x1), none, some (y_bl x3), none, some (y_bi x5)] [] m else y_bI (y_V sp ph d 218 [y_bo 11 0 a0, y_bl x1, y_bl x3, y_bi 0] m) (fun v1 m1 => if 0 ≤ z_w v1 then y_R sp ph d 219 19 [none, none, none, none, none, none] [] m1 else y_R sp ph d 219 48 [none, none, none, none, none, none] [y_bi 1] m1) (fun e m1 => y_px e m1) := by
  rw [y_R_eq (md := z_md_219) rfl rfl]
  exact (y_ic rfl (y_bIc fun v1 m1 => (y_sh (L' := [some (y_bo 11 0 a0), some (y_bl x1), none, some (y_bl x3), none, some (y_bi x5)]) (S' := [y_bi v1]) rfl rfl rfl)))
set_option maxRecDepth 4000 in
theorem y_E_219_19 (d : Nat) (m : y_m) : y_R sp ph d 219 19 [none, none, none, none, none, none] [] m = y_R sp ph d 219 48 [none, none, none, none, none, none] [y_bi 0] m := (y_R_eq (md := z_md_219) rfl rfl).trans rfl
set_option maxRecDepth 4000 in
theorem y_E_219_23 (d : Nat) (a0 : Nat) (x1 : Int) (x3 : Int) (x5 : Int) (m : y_m) : y_R sp ph d 219 23 [some (y_bo 11 0 a0), some (y_bl x1), none, some (y_bl x3), none, some (y_bi x5)] [] m = if ¬ z_w x5 = 2 then y_R sp ph d 219 36 [none, none, none, none, none, none] [y_bl x3, y_bl x1, y_bo 11 0 a0] m else y_R sp ph d 219 37 [none, none, none, none, none, none] [y_bi 1, y_bl x3, y_bl x1, y_bo 11 0 a0] m := (y_R_eq (md := z_md_219) rfl rfl).trans rfl
set_option maxRecDepth 4000 in
theorem y_E_219_36 (d : Nat) (xs0 : Int) (xs1 : Int) (as2 : Nat) (m : y_m) : y_R sp ph d 219 36 [none, none, none, none, none, none] [y_bl xs0, y_bl xs1, y_bo 11 0 as2] m = y_R sp ph d 219 37 [none, none, none, none, none, none] [y_bi 0, y_bl xs0, y_bl xs1, y_bo 11 0 as2] m := (y_R_eq (md := z_md_219) rfl rfl).trans rfl
set_option maxRecDepth 4000 in
theorem y_E_219_37 (d : Nat) (xs0 : Int) (xs1 : Int) (xs2 : Int) (as3 : Nat) (m : y_m) : y_R sp ph d 219 37 [none, none, none, none, none, none] [y_bi xs0, y_bl xs1, y_bl xs2, y_bo 11 0 as3] m = y_bI (y_V sp ph d 218 [y_bo 11 0 as3, y_bl xs2, y_bl xs1, y_bi xs0] m) (fun v1 m1 => if z_w v1 ≤ 0 then y_R sp ph d 219 47 [none, none, none, none, none, none] [] m1 else y_R sp ph d 219 48 [none, none, none, none, none, none] [y_bi 1] m1) (fun e m1 => y_px e m1) := by
  rw [y_R_eq (md := z_md_219) rfl rfl]
  exact (y_bIc fun v1 m1 => (y_sh (L' := [none, none, none, none, none, none]) (S' := [y_bi v1]) rfl rfl rfl))
set_option maxRecDepth 4000 in
theorem y_E_219_47 (d : Nat) (m : y_m) : y_R sp ph d 219 47 [none, none, none, none, none, none] [] m = y_R sp ph d 219 48 [none, none, none, none, none, none] [y_bi 0] m := (y_R_eq (md := z_md_219) rfl rfl).trans rfl
set_option maxRecDepth 4000 in
theorem y_E_219_48 (d : Nat) (xs0 : Int) (m : y_m) : y_R sp ph d 219 48 [none, none, none, none, none, none] [y_bi xs0] m = y_g (xs0 = 0 ∨ xs0 = 1) (y_rI xs0 m) := (y_R_eq (md := z_md_219) rfl rfl).trans rfl
set_option maxRecDepth 4000 in
theorem y_C_219 (d : Nat) (a0 : Nat) (x1 : Int) (x3 : Int) (x5 : Int) (m : y_m) : y_V sp ph (d + 1) 219 [y_bo 11 0 a0, y_bl x1, y_bl x3, y_bi x5] m = y_R sp ph d 219 0 [some (y_bo 11 0 a0), some (y_bl x1), none, some (y_bl x3), none, some (y_bi x5)] [] m := (y_V_eq (md := z_md_219) rfl rfl rfl).trans rfl
/-! LacedHolesModel.laysSum (JZ)V -/
set_option maxRecDepth 4000 in
theorem y_E_220_0 (d : Nat) (a0 : Nat) (x1 : Int) (x3 : Int) (m : y_m) : y_R sp ph d 220 0 [some (y_bo 11 0 a0), some (y_bl x1), none, some (y_bi x3), none] [] m = if z_w x3 = 0 then y_R sp ph d 220 17 [some (y_bo 11 0 a0), some (y_bl x1), none, none, none] [y_bi 0, y_bo 100 6 92] m else y_bI (y_V sp ph d 214 [y_bl x1, y_bi 0] m) (fun v1 m1 => y_R sp ph d 220 21 [some (y_bo 11 0 a0), some (y_bl x1), none, none, none] [y_bi v1, y_bi 0, y_bo 100 6 92] m1) (fun e m1 => y_px e m1) := by
  rw [y_R_eq (md := z_md_220) rfl rfl]
  exact (y_ic rfl (y_bIc fun v1 m1 => (y_sh (L' := [some (y_bo 11 0 a0), some (y_bl x1), none, some (y_bi x3), none]) (S' := [y_bi v1, y_bi 0, y_bo 100 6 92]) rfl rfl rfl)))
set_option maxRecDepth 4000 in
theorem y_E_220_17 (d : Nat) (a0 : Nat) (x1 : Int) (xs0 : Int) (as1 : Nat) (m : y_m) : y_R sp ph d 220 17 [some (y_bo 11 0 a0), some (y_bl x1), none, none, none] [y_bi xs0, y_bo 100 6 as1] m = y_bI (y_V sp ph d 213 [y_bl x1] m) (fun v1 m1 => y_R sp ph d 220 21 [some (y_bo 11 0 a0), some (y_bl x1), none, none, none] [y_bi v1, y_bi xs0, y_bo 100 6 as1] m1) (fun e m1 => y_px e m1) := by
  rw [y_R_eq (md := z_md_220) rfl rfl]
  exact (y_bIc fun v1 m1 => (y_sh (L' := [some (y_bo 11 0 a0), some (y_bl x1), none, none, none]) (S' := [y_bi v1, y_bi xs0, y_bo 100 6 as1]) rfl rfl rfl))
set_option maxRecDepth 4000 in
theorem y_E_220_21 (d : Nat) (a0 : Nat) (x1 : Int) (xs0 : Int) (xs1 : Int) (as2 : Nat) (m : y_m) : y_R sp ph d 220 21 [some (y_bo 11 0 a0), some (y_bl x1), none, none, none] [y_bi xs0, y_bi xs1, y_bo 100 6 as2] m = y_g (0 ≤ xs1 ∧ xs1 < (6 : Int)) (y_R sp ph d 220 25 [some (y_bo 11 0 a0), some (y_bl x1), none, none, some (y_bi 1)] [] (y_sI m as2 xs1.toNat xs0)) := (y_R_eq (md := z_md_220) rfl rfl).trans rfl
set_option maxRecDepth 4000 in
theorem y_E_220_25 (d : Nat) (a0 : Nat) (x1 : Int) (x4 : Int) (m : y_m) : y_R sp ph d 220 25 [some (y_bo 11 0 a0), some (y_bl x1), none, none, some (y_bi x4)] [] m = if 5 < z_w x4 then y_R sp ph d 220 50 [none, none, none, none, none] [] m else y_bI (y_V sp ph d 214 [y_bl x1, y_bi x4] m) (fun v1 m1 => y_g (0 ≤ x4 ∧ x4 < (6 : Int)) (y_R sp ph d 220 25 [some (y_bo 11 0 a0), some (y_bl x1), none, none, some (y_bi (x4 + 1))] [] (y_sI m1 92 x4.toNat v1))) (fun e m1 => y_px e m1) := by
  rw [y_R_eq (md := z_md_220) rfl rfl]
  exact (y_ic rfl (y_bIc fun v1 m1 => (y_sh (L' := [some (y_bo 11 0 a0), some (y_bl x1), none, none, some (y_bi x4)]) (S' := [y_bi v1, y_bi x4, y_bo 100 6 92]) rfl rfl rfl)))
set_option maxRecDepth 4000 in
theorem y_E_220_50 (d : Nat) (m : y_m) : y_R sp ph d 220 50 [none, none, none, none, none] [] m = y_rV m := (y_R_eq (md := z_md_220) rfl rfl).trans rfl
set_option maxRecDepth 4000 in
theorem y_C_220 (d : Nat) (a0 : Nat) (x1 : Int) (x3 : Int) (m : y_m) : y_V sp ph (d + 1) 220 [y_bo 11 0 a0, y_bl x1, y_bi x3] m = y_R sp ph d 220 0 [some (y_bo 11 0 a0), some (y_bl x1), none, some (y_bi x3), none] [] m := (y_V_eq (md := z_md_220) rfl rfl rfl).trans rfl
/-! LacedHolesModel.cut (JZ)I -/
set_option maxRecDepth 4000 in
theorem y_E_221_0 (d : Nat) (a0 : Nat) (x1 : Int) (x3 : Int) (m : y_m) : y_R sp ph d 221 0 [some (y_bo 11 0 a0), some (y_bl x1), none, some (y_bi x3)] [] m = y_bV (y_V sp ph d 220 [y_bo 11 0 a0, y_bl x1, y_bi x3] m) (fun m1 => y_bI (y_V sp ph d 222 [y_bo 11 0 a0, y_bi x3] m1) (fun v2 m2 => y_rI v2 m2) (fun e m1 => y_px e m1)) (fun e m1 => y_px e m1) := by
  rw [y_R_eq (md := z_md_221) rfl rfl]
  exact (y_bVc fun m1 => (y_sh (L' := [some (y_bo 11 0 a0), some (y_bl x1), none, some (y_bi x3)]) (S' := []) rfl rfl (y_bIc fun v2 m2 => (y_sh (L' := [some (y_bo 11 0 a0), some (y_bl x1), none, some (y_bi x3)]) (S' := [y_bi v2]) rfl rfl rfl))))
set_option maxRecDepth 4000 in
theorem y_C_221 (d : Nat) (a0 : Nat) (x1 : Int) (x3 : Int) (m : y_m) : y_V sp ph (d + 1) 221 [y_bo 11 0 a0, y_bl x1, y_bi x3] m = y_R sp ph d 221 0 [some (y_bo 11 0 a0), some (y_bl x1), none, some (y_bi x3)] [] m := (y_V_eq (md := z_md_221) rfl rfl rfl).trans rfl
/-! LacedHolesModel.cutSum (Z)I -/
set_option maxRecDepth 4000 in
theorem y_E_222_0 (d : Nat) (a0 : Nat) (x1 : Int) (m : y_m) : y_R sp ph d 222 0 [some (y_bo 11 0 a0), some (y_bi x1), none, none, none, none, none, none, none] [] m = if z_w x1 = 0 then y_R sp ph d 222 9 [some (y_bo 11 0 a0), some (y_bi x1), none, none, none, none, none, none, none] [] m else y_R sp ph d 222 10 [some (y_bo 11 0 a0), some (y_bi x1), none, none, none, none, none, none, none] [y_bi 6] m := (y_R_eq (md := z_md_222) rfl rfl).trans rfl
set_option maxRecDepth 4000 in
theorem y_E_222_9 (d : Nat) (a0 : Nat) (x1 : Int) (m : y_m) : y_R sp ph d 222 9 [some (y_bo 11 0 a0), some (y_bi x1), none, none, none, none, none, none, none] [] m = y_R sp ph d 222 10 [some (y_bo 11 0 a0), some (y_bi x1), none, none, none, none, none, none, none] [y_bi 3] m := (y_R_eq (md := z_md_222) rfl rfl).trans rfl
set_option maxRecDepth 4000 in
theorem y_E_222_10 (d : Nat) (a0 : Nat) (x1 : Int) (xs0 : Int) (m : y_m) : y_R sp ph d 222 10 [some (y_bo 11 0 a0), some (y_bi x1), none, none, none, none, none, none, none] [y_bi xs0] m = y_R sp ph d 222 16 [some (y_bo 11 0 a0), some (y_bi x1), some (y_bi xs0), some (y_bi 1), some (y_bi 1), none, none, none, none] [] m := (y_R_eq (md := z_md_222) rfl rfl).trans rfl
set_option maxRecDepth 4000 in
theorem y_E_222_16 (d : Nat) (a0 : Nat) (x1 : Int) (x2 : Int) (x3 : Int) (x4 : Int) (m : y_m) : y_R sp ph d 222 16 [some (y_bo 11 0 a0), some (y_bi x1), some (y_bi x2), some (y_bi x3), some (y_bi x4), none, none, none, none] [] m = if 5 < z_w x4 then y_R sp ph d 222 59 [some (y_bo 11 0 a0), some (y_bi x1), some (y_bi x2), some (y_bi x3), none, none, none, none, none] [] m else if z_w x3 = 0 then y_R sp ph d 222 51 [some (y_bo 11 0 a0), some (y_bi x1), some (y_bi x2), none, some (y_bi x4), none, none, none, none] [] m else y_g (0 ≤ x4 ∧ x4 < (6 : Int)) (if z_w (y_mI m 92 x4.toNat) = 0 then y_R sp ph d 222 47 [some (y_bo 11 0 a0), some (y_bi x1), some (y_bi x2), none, some (y_bi x4), none, none, none, none] [] m else y_g (0 ≤ x4 ∧ x4 < (6 : Int)) (if ¬ z_w (y_mI m 75 x4.toNat) = 1 then y_R sp ph d 222 51 [some (y_bo 11 0 a0), some (y_bi x1), some (y_bi x2), none, some (y_bi x4), none, none, none, none] [] m else y_R sp ph d 222 47 [some (y_bo 11 0 a0), some (y_bi x1), some (y_bi x2), none, some (y_bi x4), none, none, none, none] [] m)) := (y_R_eq (md := z_md_222) rfl rfl).trans rfl
set_option maxRecDepth 4000 in
theorem y_E_222_47 (d : Nat) (a0 : Nat) (x1 : Int) (x2 : Int) (x4 : Int) (m : y_m) : y_R sp ph d 222 47 [some (y_bo 11 0 a0), some (y_bi x1), some (y_bi x2), none, some (y_bi x4), none, none, none, none] [] m = y_R sp ph d 222 52 [some (y_bo 11 0 a0), some (y_bi x1), some (y_bi x2), none, some (y_bi x4), none, none, none, none] [y_bi 1] m := (y_R_eq (md := z_md_222) rfl rfl).trans rfl
set_option maxRecDepth 4000 in
theorem y_E_222_51 (d : Nat) (a0 : Nat) (x1 : Int) (x2 : Int) (x4 : Int) (m : y_m) : y_R sp ph d 222 51 [some (y_bo 11 0 a0), some (y_bi x1), some (y_bi x2), none, some (y_bi x4), none, none, none, none] [] m = y_R sp ph d 222 52 [some (y_bo 11 0 a0), some (y_bi x1), some (y_bi x2), none, some (y_bi x4), none, none, none, none] [y_bi 0] m := (y_R_eq (md := z_md_222) rfl rfl).trans rfl
set_option maxRecDepth 4000 in
theorem y_E_222_52 (d : Nat) (a0 : Nat) (x1 : Int) (x2 : Int) (x4 : Int) (xs0 : Int) (m : y_m) : y_R sp ph d 222 52 [some (y_bo 11 0 a0), some (y_bi x1), some (y_bi x2), none, some (y_bi x4), none, none, none, none] [y_bi xs0] m = y_R sp ph d 222 16 [some (y_bo 11 0 a0), some (y_bi x1), some (y_bi x2), some (y_bi xs0), some (y_bi (x4 + 1)), none, none, none, none] [] m := (y_R_eq (md := z_md_222) rfl rfl).trans rfl
set_option maxRecDepth 4000 in
theorem y_E_222_59 (d : Nat) (a0 : Nat) (x1 : Int) (x2 : Int) (x3 : Int) (m : y_m) : y_R sp ph d 222 59 [some (y_bo 11 0 a0), some (y_bi x1), some (y_bi x2), some (y_bi x3), none, none, none, none, none] [] m = if z_w x3 = 0 then y_R sp ph d 222 178 [some (y_bo 11 0 a0), some (y_bi x1), some (y_bi x2), none, none, none, none, none, none] [] m else if z_w x1 = 0 then y_R sp ph d 222 178 [some (y_bo 11 0 a0), some (y_bi x1), some (y_bi x2), none, none, none, none, none, none] [] m else y_R sp ph d 222 82 [some (y_bo 11 0 a0), none, none, none, some (y_bl (z_w (y_mI m 92 0))), none, some (y_bl 1), none, some (y_bi 1)] [] m := (y_R_eq (md := z_md_222) rfl rfl).trans rfl
set_option maxRecDepth 4000 in
theorem y_E_222_82 (d : Nat) (a0 : Nat) (x4 : Int) (x6 : Int) (x8 : Int) (m : y_m) : y_R sp ph d 222 82 [some (y_bo 11 0 a0), none, none, none, some (y_bl x4), none, some (y_bl x6), none, some (y_bi x8)] [] m = if 5 < z_w x8 then y_R sp ph d 222 153 [none, none, none, none, some (y_bl x4), none, some (y_bl x6), none, none] [] m else y_g (0 ≤ x8 ∧ x8 < (6 : Int)) (if ¬ z_w (y_mI m 92 x8.toNat) = 0 then y_R sp ph d 222 101 [some (y_bo 11 0 a0), none, none, none, some (y_bl x4), none, some (y_bl x6), none, some (y_bi x8)] [] m else y_R sp ph d 222 147 [some (y_bo 11 0 a0), none, none, none, some (y_bl x4), none, some (y_bl x6), none, some (y_bi x8)] [] m) := (y_R_eq (md := z_md_222) rfl rfl).trans rfl
set_option maxRecDepth 4000 in
theorem y_E_222_101 (d : Nat) (a0 : Nat) (x4 : Int) (x6 : Int) (x8 : Int) (m : y_m) : y_R sp ph d 222 101 [some (y_bo 11 0 a0), none, none, none, some (y_bl x4), none, some (y_bl x6), none, some (y_bi x8)] [] m = y_g (0 ≤ x8 ∧ x8 < (6 : Int)) (y_g (0 ≤ x8 ∧ x8 < (6 : Int)) (y_g (0 ≤ x8 ∧ x8 < (6 : Int)) (y_R sp ph d 222 147 [some (y_bo 11 0 a0), none, none, none, some (y_bl ((x4 * (z_w (y_mI m 74 x8.toNat))) + (((z_w (y_mI m 92 x8.toNat)) * (z_w (y_mI m 52 2))) * x6))), none, some (y_bl (x6 * (z_w (y_mI m 74 x8.toNat)))), none, some (y_bi x8)] [] m))) := (y_R_eq (md := z_md_222) rfl rfl).trans rfl
set_option maxRecDepth 4000 in
theorem y_E_222_147 (d : Nat) (a0 : Nat) (x4 : Int) (x6 : Int) (x8 : Int) (m : y_m) : y_R sp ph d 222 147 [some (y_bo 11 0 a0), none, none, none, some (y_bl x4), none, some (y_bl x6), none, some (y_bi x8)] [] m = y_R sp ph d 222 82 [some (y_bo 11 0 a0), none, none, none, some (y_bl x4), none, some (y_bl x6), none, some (y_bi (x8 + 1))] [] m := (y_R_eq (md := z_md_222) rfl rfl).trans rfl
set_option maxRecDepth 4000 in
theorem y_E_222_153 (d : Nat) (x4 : Int) (x6 : Int) (m : y_m) : y_R sp ph d 222 153 [none, none, none, none, some (y_bl x4), none, some (y_bl x6), none, none] [] m = y_g (z_wl x6 ≠ 0) (y_g (z_wl x6 ≠ 0) (y_g (z_wl x6 ≠ 0) (y_rI (((z_ldiv x4 x6) * 1000000) + (z_ldiv ((z_lrem x4 x6) * 1000000) x6)) m))) := (y_R_eq (md := z_md_222) rfl rfl).trans rfl
set_option maxRecDepth 4000 in
theorem y_E_222_178 (d : Nat) (a0 : Nat) (x1 : Int) (x2 : Int) (m : y_m) : y_R sp ph d 222 178 [some (y_bo 11 0 a0), some (y_bi x1), some (y_bi x2), none, none, none, none, none, none] [] m = y_bV (y_V sp ph d 216 [y_bo 11 0 a0, y_bi x1] m) (fun m1 => y_R sp ph d 222 189 [some (y_bo 11 0 a0), none, some (y_bi x2), none, some (y_bi 0), some (y_bi 0), none, none, none] [] m1) (fun e m1 => y_px e m1) := by
  rw [y_R_eq (md := z_md_222) rfl rfl]
  exact (y_bVc fun m1 => (y_sh (L' := [some (y_bo 11 0 a0), some (y_bi x1), some (y_bi x2), none, none, none, none, none, none]) (S' := []) rfl rfl rfl))
set_option maxRecDepth 4000 in
theorem y_E_222_189 (d : Nat) (a0 : Nat) (x2 : Int) (x4 : Int) (x5 : Int) (m : y_m) : y_R sp ph d 222 189 [some (y_bo 11 0 a0), none, some (y_bi x2), none, some (y_bi x4), some (y_bi x5), none, none, none] [] m = if z_w (8 + x2) ≤ z_w x5 then y_R sp ph d 222 220 [none, none, none, none, some (y_bi x4), none, none, none, none] [] m else y_g (0 ≤ x5 ∧ x5 < (228 : Int)) (y_R sp ph d 222 189 [some (y_bo 11 0 a0), none, some (y_bi x2), none, some (y_bi ((10 * x4) + (y_mJ m 93 x5.toNat))), some (y_bi (x5 + 1)), none, none, none] [] m) := (y_R_eq (md := z_md_222) rfl rfl).trans rfl
set_option maxRecDepth 4000 in
theorem y_E_222_220 (d : Nat) (x4 : Int) (m : y_m) : y_R sp ph d 222 220 [none, none, none, none, some (y_bi x4), none, none, none, none] [] m = y_rI x4 m := (y_R_eq (md := z_md_222) rfl rfl).trans rfl
set_option maxRecDepth 4000 in
theorem y_C_222 (d : Nat) (a0 : Nat) (x1 : Int) (m : y_m) : y_V sp ph (d + 1) 222 [y_bo 11 0 a0, y_bi x1] m = y_R sp ph d 222 0 [some (y_bo 11 0 a0), some (y_bi x1), none, none, none, none, none, none, none] [] m := (y_V_eq (md := z_md_222) rfl rfl rfl).trans rfl
/-! LacedHolesModel.span (II)I -/
set_option maxRecDepth 4000 in
theorem y_E_223_0 (d : Nat) (a0 : Nat) (x1 : Int) (x2 : Int) (m : y_m) : y_R sp ph d 223 0 [some (y_bo 11 0 a0), some (y_bi x1), some (y_bi x2)] [] m = y_bI (y_V sp ph d 199 [y_bo 11 0 a0] (y_sI m a0 0 0)) (fun v1 m1 => y_bI (y_V sp ph d 180 [y_bi x1, y_bi 0, y_bi (v1 - 1)] m1) (fun v2 m2 => if z_w v2 = 0 then y_R sp ph d 223 34 [some (y_bo 11 0 a0), some (y_bi x1), some (y_bi x2)] [y_bo 11 0 a0] m2 else y_bI (y_V sp ph d 199 [y_bo 11 0 a0] m2) (fun v3 m3 => y_bI (y_V sp ph d 180 [y_bi x2, y_bi 0, y_bi (v3 - 1)] m3) (fun v4 m4 => if ¬ z_w v4 = 0 then y_R sp ph d 223 38 [some (y_bo 11 0 a0), some (y_bi x1), some (y_bi x2)] [y_bo 11 0 a0] m4 else y_R sp ph d 223 34 [some (y_bo 11 0 a0), some (y_bi x1), some (y_bi x2)] [y_bo 11 0 a0] m4) (fun e m1 => y_px e m1)) (fun e m1 => y_px e m1)) (fun e m1 => y_px e m1)) (fun e m1 => y_px e m1) := by
  rw [y_R_eq (md := z_md_223) rfl rfl]
  exact (y_bIc fun v1 m1 => (y_sh (L' := [some (y_bo 11 0 a0), some (y_bi x1), some (y_bi x2)]) (S' := [y_bi v1, y_bi 0, y_bi x1, y_bo 11 0 a0]) rfl rfl (y_bIc fun v2 m2 => (y_sh (L' := [some (y_bo 11 0 a0), some (y_bi x1), some (y_bi x2)]) (S' := [y_bi v2, y_bo 11 0 a0]) rfl rfl (y_ic rfl (y_bIc fun v3 m3 => (y_sh (L' := [some (y_bo 11 0 a0), some (y_bi x1), some (y_bi x2)]) (S' := [y_bi v3, y_bi 0, y_bi x2, y_bo 11 0 a0]) rfl rfl (y_bIc fun v4 m4 => (y_sh (L' := [some (y_bo 11 0 a0), some (y_bi x1), some (y_bi x2)]) (S' := [y_bi v4, y_bo 11 0 a0]) rfl rfl rfl)))))))))
set_option maxRecDepth 4000 in
theorem y_E_223_34 (d : Nat) (a0 : Nat) (x1 : Int) (x2 : Int) (as0 : Nat) (m : y_m) : y_R sp ph d 223 34 [some (y_bo 11 0 a0), some (y_bi x1), some (y_bi x2)] [y_bo 11 0 as0] m = y_R sp ph d 223 39 [some (y_bo 11 0 a0), some (y_bi x1), some (y_bi x2)] [y_bi 1, y_bo 11 0 as0] m := (y_R_eq (md := z_md_223) rfl rfl).trans rfl
set_option maxRecDepth 4000 in
theorem y_E_223_38 (d : Nat) (a0 : Nat) (x1 : Int) (x2 : Int) (as0 : Nat) (m : y_m) : y_R sp ph d 223 38 [some (y_bo 11 0 a0), some (y_bi x1), some (y_bi x2)] [y_bo 11 0 as0] m = y_R sp ph d 223 39 [some (y_bo 11 0 a0), some (y_bi x1), some (y_bi x2)] [y_bi 0, y_bo 11 0 as0] m := (y_R_eq (md := z_md_223) rfl rfl).trans rfl
set_option maxRecDepth 4000 in
theorem y_E_223_39 (d : Nat) (a0 : Nat) (x1 : Int) (x2 : Int) (xs0 : Int) (as1 : Nat) (m : y_m) : y_R sp ph d 223 39 [some (y_bo 11 0 a0), some (y_bi x1), some (y_bi x2)] [y_bi xs0, y_bo 11 0 as1] m = y_bI (y_V sp ph d 179 [y_bo 11 0 as1, y_bi xs0, y_bi 1] m) (fun v1 m1 => if ¬ z_w v1 = 0 then y_R sp ph d 223 64 [none, none, none] [] m1 else if ¬ z_w x1 = z_w x2 then y_R sp ph d 223 56 [some (y_bo 11 0 a0), some (y_bi x1), some (y_bi x2)] [y_bo 11 0 a0] m1 else y_R sp ph d 223 57 [some (y_bo 11 0 a0), some (y_bi x1), some (y_bi x2)] [y_bi 1, y_bo 11 0 a0] m1) (fun e m1 => y_px e m1) := by
  rw [y_R_eq (md := z_md_223) rfl rfl]
  exact (y_bIc fun v1 m1 => (y_sh (L' := [some (y_bo 11 0 a0), some (y_bi x1), some (y_bi x2)]) (S' := [y_bi v1]) rfl rfl rfl))
set_option maxRecDepth 4000 in
theorem y_E_223_56 (d : Nat) (a0 : Nat) (x1 : Int) (x2 : Int) (as0 : Nat) (m : y_m) : y_R sp ph d 223 56 [some (y_bo 11 0 a0), some (y_bi x1), some (y_bi x2)] [y_bo 11 0 as0] m = y_R sp ph d 223 57 [some (y_bo 11 0 a0), some (y_bi x1), some (y_bi x2)] [y_bi 0, y_bo 11 0 as0] m := (y_R_eq (md := z_md_223) rfl rfl).trans rfl
set_option maxRecDepth 4000 in
theorem y_E_223_57 (d : Nat) (a0 : Nat) (x1 : Int) (x2 : Int) (xs0 : Int) (as1 : Nat) (m : y_m) : y_R sp ph d 223 57 [some (y_bo 11 0 a0), some (y_bi x1), some (y_bi x2)] [y_bi xs0, y_bo 11 0 as1] m = y_bI (y_V sp ph d 179 [y_bo 11 0 as1, y_bi xs0, y_bi 2] m) (fun v1 m1 => if z_w v1 = 0 then y_R sp ph d 223 66 [some (y_bo 11 0 a0), some (y_bi x1), some (y_bi x2)] [] m1 else y_R sp ph d 223 64 [none, none, none] [] m1) (fun e m1 => y_px e m1) := by
  rw [y_R_eq (md := z_md_223) rfl rfl]
  exact (y_bIc fun v1 m1 => (y_sh (L' := [some (y_bo 11 0 a0), some (y_bi x1), some (y_bi x2)]) (S' := [y_bi v1]) rfl rfl rfl))
set_option maxRecDepth 4000 in
theorem y_E_223_64 (d : Nat) (m : y_m) : y_R sp ph d 223 64 [none, none, none] [] m = y_rI 0 m := (y_R_eq (md := z_md_223) rfl rfl).trans rfl
set_option maxRecDepth 4000 in
theorem y_E_223_66 (d : Nat) (a0 : Nat) (x1 : Int) (x2 : Int) (m : y_m) : y_R sp ph d 223 66 [some (y_bo 11 0 a0), some (y_bi x1), some (y_bi x2)] [] m = y_bL (y_V sp ph d 212 [y_bo 11 0 a0, y_bi x1, y_bi x2] m) (fun v1 m1 => y_bI (y_V sp ph d 221 [y_bo 11 0 a0, y_bl v1, y_bi 0] m1) (fun v2 m2 => y_rI v2 m2) (fun e m1 => y_px e m1)) (fun e m1 => y_px e m1) := by
  rw [y_R_eq (md := z_md_223) rfl rfl]
  exact (y_bLc fun v1 m1 => (y_sh (L' := [some (y_bo 11 0 a0), some (y_bi x1), some (y_bi x2)]) (S' := [y_bl v1, y_bo 11 0 a0]) rfl rfl (y_bIc fun v2 m2 => (y_sh (L' := [some (y_bo 11 0 a0), some (y_bi x1), some (y_bi x2)]) (S' := [y_bi v2]) rfl rfl rfl))))
set_option maxRecDepth 4000 in
theorem y_C_223 (d : Nat) (a0 : Nat) (x1 : Int) (x2 : Int) (m : y_m) : y_V sp ph (d + 1) 223 [y_bo 11 0 a0, y_bi x1, y_bi x2] m = y_R sp ph d 223 0 [some (y_bo 11 0 a0), some (y_bi x1), some (y_bi x2)] [] m := (y_V_eq (md := z_md_223) rfl rfl rfl).trans rfl
/-! LacedHolesModel.at (I)I -/
set_option maxRecDepth 4000 in
theorem y_E_224_0 (d : Nat) (a0 : Nat) (x1 : Int) (m : y_m) : y_R sp ph d 224 0 [some (y_bo 11 0 a0), some (y_bi x1)] [] m = y_bI (y_V sp ph d 180 [y_bi x1, y_bi 0, y_bi ((y_mI (y_sI m a0 0 0) a0 13) - 1)] (y_sI m a0 0 0)) (fun v1 m1 => if z_w v1 = 0 then y_R sp ph d 224 28 [none, none] [] m1 else y_g (0 ≤ x1 ∧ x1 < (12 : Int)) (y_R sp ph d 224 29 [none, none] [y_bi (y_mI m1 54 x1.toNat)] m1)) (fun e m1 => y_px e m1) := by
  rw [y_R_eq (md := z_md_224) rfl rfl]
  exact (y_bIc fun v1 m1 => (y_sh (L' := [some (y_bo 11 0 a0), some (y_bi x1)]) (S' := [y_bi v1]) rfl rfl rfl))
set_option maxRecDepth 4000 in
theorem y_E_224_28 (d : Nat) (m : y_m) : y_R sp ph d 224 28 [none, none] [] m = y_R sp ph d 224 29 [none, none] [y_bi (-1)] m := (y_R_eq (md := z_md_224) rfl rfl).trans rfl
set_option maxRecDepth 4000 in
theorem y_E_224_29 (d : Nat) (xs0 : Int) (m : y_m) : y_R sp ph d 224 29 [none, none] [y_bi xs0] m = y_rI xs0 m := (y_R_eq (md := z_md_224) rfl rfl).trans rfl
set_option maxRecDepth 4000 in
theorem y_C_224 (d : Nat) (a0 : Nat) (x1 : Int) (m : y_m) : y_V sp ph (d + 1) 224 [y_bo 11 0 a0, y_bi x1] m = y_R sp ph d 224 0 [some (y_bo 11 0 a0), some (y_bi x1)] [] m := (y_V_eq (md := z_md_224) rfl rfl rfl).trans rfl
/-! LacedHolesModel.nextOf (I)I -/
set_option maxRecDepth 4000 in
theorem y_E_225_0 (d : Nat) (a0 : Nat) (x1 : Int) (m : y_m) : y_R sp ph d 225 0 [some (y_bo 11 0 a0), some (y_bi x1)] [] m = y_g (z_w (y_mI m a0 13) ≠ 0) (y_g (0 ≤ z_irem (x1 + 1) (y_mI m a0 13) ∧ z_irem (x1 + 1) (y_mI m a0 13) < (12 : Int)) (y_rI (y_mI m 54 (z_irem (x1 + 1) (y_mI m a0 13)).toNat) m)) := (y_R_eq (md := z_md_225) rfl rfl).trans rfl
set_option maxRecDepth 4000 in
theorem y_C_225 (d : Nat) (a0 : Nat) (x1 : Int) (m : y_m) : y_V sp ph (d + 1) 225 [y_bo 11 0 a0, y_bi x1] m = y_R sp ph d 225 0 [some (y_bo 11 0 a0), some (y_bi x1)] [] m := (y_V_eq (md := z_md_225) rfl rfl rfl).trans rfl
/-! LacedHolesModel.aheadOf (I)I -/
set_option maxRecDepth 4000 in
theorem y_E_226_0 (d : Nat) (a0 : Nat) (x1 : Int) (m : y_m) : y_R sp ph d 226 0 [some (y_bo 11 0 a0), some (y_bi x1)] [] m = y_g (z_w (y_mI m a0 13) ≠ 0) (y_g (0 ≤ z_irem ((x1 + (y_mI m a0 13)) - 1) (y_mI m a0 13) ∧ z_irem ((x1 + (y_mI m a0 13)) - 1) (y_mI m a0 13) < (12 : Int)) (y_rI (y_mI m 54 (z_irem ((x1 + (y_mI m a0 13)) - 1) (y_mI m a0 13)).toNat) m)) := (y_R_eq (md := z_md_226) rfl rfl).trans rfl
set_option maxRecDepth 4000 in
theorem y_C_226 (d : Nat) (a0 : Nat) (x1 : Int) (m : y_m) : y_V sp ph (d + 1) 226 [y_bo 11 0 a0, y_bi x1] m = y_R sp ph d 226 0 [some (y_bo 11 0 a0), some (y_bi x1)] [] m := (y_V_eq (md := z_md_226) rfl rfl rfl).trans rfl
/-! LacedHolesModel.mayBe (ZZ)Z -/
set_option maxRecDepth 4000 in
theorem y_E_227_0 (d : Nat) (a0 : Nat) (x1 : Int) (x2 : Int) (m : y_m) : y_R sp ph d 227 0 [some (y_bo 11 0 a0), some (y_bi x1), some (y_bi x2)] [] m = if z_w (y_mI m 52 4) = 0 then y_R sp ph d 227 35 [none, none, none] [] m else if ¬ z_w (y_mI m 52 4) = 1 then y_R sp ph d 227 30 [none, some (y_bi x1), some (y_bi x2)] [] m else if ¬ z_w x1 = 0 then y_R sp ph d 227 35 [none, none, none] [] m else if z_w x2 = 0 then y_R sp ph d 227 39 [none, none, none] [] m else y_R sp ph d 227 35 [none, none, none] [] m := (y_R_eq (md := z_md_227) rfl rfl).trans rfl
set_option maxRecDepth 4000 in
theorem y_E_227_30 (d : Nat) (x1 : Int) (x2 : Int) (m : y_m) : y_R sp ph d 227 30 [none, some (y_bi x1), some (y_bi x2)] [] m = if z_w x1 = z_w x2 then y_R sp ph d 227 39 [none, none, none] [] m else y_R sp ph d 227 35 [none, none, none] [] m := (y_R_eq (md := z_md_227) rfl rfl).trans rfl
set_option maxRecDepth 4000 in
theorem y_E_227_35 (d : Nat) (m : y_m) : y_R sp ph d 227 35 [none, none, none] [] m = y_R sp ph d 227 40 [none, none, none] [y_bi 1] m := (y_R_eq (md := z_md_227) rfl rfl).trans rfl
set_option maxRecDepth 4000 in
theorem y_E_227_39 (d : Nat) (m : y_m) : y_R sp ph d 227 39 [none, none, none] [] m = y_R sp ph d 227 40 [none, none, none] [y_bi 0] m := (y_R_eq (md := z_md_227) rfl rfl).trans rfl
set_option maxRecDepth 4000 in
theorem y_E_227_40 (d : Nat) (xs0 : Int) (m : y_m) : y_R sp ph d 227 40 [none, none, none] [y_bi xs0] m = y_g (xs0 = 0 ∨ xs0 = 1) (y_rI xs0 m) := (y_R_eq (md := z_md_227) rfl rfl).trans rfl
set_option maxRecDepth 4000 in
theorem y_C_227 (d : Nat) (a0 : Nat) (x1 : Int) (x2 : Int) (m : y_m) : y_V sp ph (d + 1) 227 [y_bo 11 0 a0, y_bi x1, y_bi x2] m = y_R sp ph d 227 0 [some (y_bo 11 0 a0), some (y_bi x1), some (y_bi x2)] [] m := (y_V_eq (md := z_md_227) rfl rfl rfl).trans rfl
/-! LacedHolesModel.isAgainst (I)Z -/
set_option maxRecDepth 4000 in
theorem y_E_228_0 (d : Nat) (a0 : Nat) (x1 : Int) (m : y_m) : y_R sp ph d 228 0 [some (y_bo 11 0 a0), some (y_bi x1)] [] m = y_bI (y_V sp ph d 226 [y_bo 11 0 a0, y_bi x1] m) (fun v1 m1 => y_g (0 ≤ x1 ∧ x1 < (12 : Int)) (y_bI (y_V sp ph d 211 [y_bo 11 0 a0, y_bi v1, y_bi (y_mI m1 54 x1.toNat)] m1) (fun v2 m2 => y_g (0 ≤ x1 ∧ x1 < (12 : Int)) (y_bI (y_V sp ph d 225 [y_bo 11 0 a0, y_bi x1] m2) (fun v3 m3 => y_bI (y_V sp ph d 211 [y_bo 11 0 a0, y_bi (y_mI m2 54 x1.toNat), y_bi v3] m3) (fun v4 m4 => y_bI (y_V sp ph d 227 [y_bo 11 0 a0, y_bi v2, y_bi v4] m4) (fun v5 m5 => if ¬ z_w v5 = 0 then y_R sp ph d 228 41 [none, none] [] m5 else y_R sp ph d 228 42 [none, none] [y_bi 1] m5) (fun e m1 => y_px e m1)) (fun e m1 => y_px e m1)) (fun e m1 => y_px e m1))) (fun e m1 => y_px e m1))) (fun e m1 => y_px e m1) := by
  rw [y_R_eq (md := z_md_228) rfl rfl]
  exact (y_bIc fun v1 m1 => (y_sh (L' := [some (y_bo 11 0 a0), some (y_bi x1)]) (S' := [y_bi v1, y_bo 11 0 a0, y_bo 11 0 a0]) rfl rfl (y_gc (y_bIc fun v2 m2 => (y_sh (L' := [some (y_bo 11 0 a0), some (y_bi x1)]) (S' := [y_bi v2, y_bo 11 0 a0]) rfl rfl (y_gc (y_bIc fun v3 m3 => (y_sh (L' := [some (y_bo 11 0 a0), some (y_bi x1)]) (S' := [y_bi v3, y_bi (y_mI m2 54 x1.toNat), y_bo 11 0 a0, y_bi v2, y_bo 11 0 a0]) rfl rfl (y_bIc fun v4 m4 => (y_sh (L' := [some (y_bo 11 0 a0), some (y_bi x1)]) (S' := [y_bi v4, y_bi v2, y_bo 11 0 a0]) rfl rfl (y_bIc fun v5 m5 => (y_sh (L' := [some (y_bo 11 0 a0), some (y_bi x1)]) (S' := [y_bi v5]) rfl rfl rfl))))))))))))
set_option maxRecDepth 4000 in
theorem y_E_228_41 (d : Nat) (m : y_m) : y_R sp ph d 228 41 [none, none] [] m = y_R sp ph d 228 42 [none, none] [y_bi 0] m := (y_R_eq (md := z_md_228) rfl rfl).trans rfl
set_option maxRecDepth 4000 in
theorem y_E_228_42 (d : Nat) (xs0 : Int) (m : y_m) : y_R sp ph d 228 42 [none, none] [y_bi xs0] m = y_g (xs0 = 0 ∨ xs0 = 1) (y_rI xs0 m) := (y_R_eq (md := z_md_228) rfl rfl).trans rfl
set_option maxRecDepth 4000 in
theorem y_C_228 (d : Nat) (a0 : Nat) (x1 : Int) (m : y_m) : y_V sp ph (d + 1) 228 [y_bo 11 0 a0, y_bi x1] m = y_R sp ph d 228 0 [some (y_bo 11 0 a0), some (y_bi x1)] [] m := (y_V_eq (md := z_md_228) rfl rfl rfl).trans rfl
/-! LacedHolesModel.judged ()I -/
set_option maxRecDepth 4000 in
theorem y_E_229_0 (d : Nat) (a0 : Nat) (m : y_m) : y_R sp ph d 229 0 [some (y_bo 11 0 a0), none] [] m = y_R sp ph d 229 2 [some (y_bo 11 0 a0), some (y_bi 0)] [] m := (y_R_eq (md := z_md_229) rfl rfl).trans rfl
set_option maxRecDepth 4000 in
theorem y_E_229_2 (d : Nat) (a0 : Nat) (x1 : Int) (m : y_m) : y_R sp ph d 229 2 [some (y_bo 11 0 a0), some (y_bi x1)] [] m = if z_w (y_mI m a0 13) ≤ z_w x1 then y_R sp ph d 229 31 [none, none] [] m else y_bI (y_V sp ph d 228 [y_bo 11 0 a0, y_bi x1] m) (fun v1 m1 => if z_w v1 = 0 then y_R sp ph d 229 25 [some (y_bo 11 0 a0), some (y_bi x1)] [] m1 else y_g (0 ≤ x1 ∧ x1 < (12 : Int)) (y_rI (y_mI m1 54 x1.toNat) m1)) (fun e m1 => y_px e m1) := by
  rw [y_R_eq (md := z_md_229) rfl rfl]
  exact (y_ic rfl (y_bIc fun v1 m1 => (y_sh (L' := [some (y_bo 11 0 a0), some (y_bi x1)]) (S' := [y_bi v1]) rfl rfl rfl)))
set_option maxRecDepth 4000 in
theorem y_E_229_25 (d : Nat) (a0 : Nat) (x1 : Int) (m : y_m) : y_R sp ph d 229 25 [some (y_bo 11 0 a0), some (y_bi x1)] [] m = y_R sp ph d 229 2 [some (y_bo 11 0 a0), some (y_bi (x1 + 1))] [] m := (y_R_eq (md := z_md_229) rfl rfl).trans rfl
set_option maxRecDepth 4000 in
theorem y_E_229_31 (d : Nat) (m : y_m) : y_R sp ph d 229 31 [none, none] [] m = y_rI (-1) m := (y_R_eq (md := z_md_229) rfl rfl).trans rfl
set_option maxRecDepth 4000 in
theorem y_C_229 (d : Nat) (a0 : Nat) (m : y_m) : y_V sp ph (d + 1) 229 [y_bo 11 0 a0] m = y_R sp ph d 229 0 [some (y_bo 11 0 a0), none] [] m := (y_V_eq (md := z_md_229) rfl rfl rfl).trans rfl
/-! LacedHolesModel.badWay ()Z -/
set_option maxRecDepth 4000 in
theorem y_E_230_0 (d : Nat) (a0 : Nat) (m : y_m) : y_R sp ph d 230 0 [some (y_bo 11 0 a0)] [] m = if ¬ z_w (y_mI m a0 13) = 0 then y_R sp ph d 230 12 [none] [y_bo 11 0 a0] m else y_R sp ph d 230 13 [none] [y_bi 1, y_bo 11 0 a0] m := (y_R_eq (md := z_md_230) rfl rfl).trans rfl
set_option maxRecDepth 4000 in
theorem y_E_230_12 (d : Nat) (as0 : Nat) (m : y_m) : y_R sp ph d 230 12 [none] [y_bo 11 0 as0] m = y_R sp ph d 230 13 [none] [y_bi 0, y_bo 11 0 as0] m := (y_R_eq (md := z_md_230) rfl rfl).trans rfl
set_option maxRecDepth 4000 in
theorem y_E_230_13 (d : Nat) (xs0 : Int) (as1 : Nat) (m : y_m) : y_R sp ph d 230 13 [none] [y_bi xs0, y_bo 11 0 as1] m = y_bI (y_V sp ph d 179 [y_bo 11 0 as1, y_bi xs0, y_bi 1] m) (fun v1 m1 => y_g (v1 = 0 ∨ v1 = 1) (y_rI v1 m1)) (fun e m1 => y_px e m1) := by
  rw [y_R_eq (md := z_md_230) rfl rfl]
  exact (y_bIc fun v1 m1 => (y_sh (L' := [none]) (S' := [y_bi v1]) rfl rfl rfl))
set_option maxRecDepth 4000 in
theorem y_C_230 (d : Nat) (a0 : Nat) (m : y_m) : y_V sp ph (d + 1) 230 [y_bo 11 0 a0] m = y_R sp ph d 230 0 [some (y_bo 11 0 a0)] [] m := (y_V_eq (md := z_md_230) rfl rfl rfl).trans rfl
/-! LacedHolesModel.judge ()I -/
set_option maxRecDepth 4000 in
theorem y_E_231_0 (d : Nat) (a0 : Nat) (m : y_m) : y_R sp ph d 231 0 [some (y_bo 11 0 a0)] [] m = y_bI (y_V sp ph d 230 [y_bo 11 0 a0] (y_sI m a0 0 0)) (fun v1 m1 => if z_w v1 = 0 then y_R sp ph d 231 14 [some (y_bo 11 0 a0)] [] m1 else y_rI 0 m1) (fun e m1 => y_px e m1) := by
  rw [y_R_eq (md := z_md_231) rfl rfl]
  exact (y_bIc fun v1 m1 => (y_sh (L' := [some (y_bo 11 0 a0)]) (S' := [y_bi v1]) rfl rfl rfl))
set_option maxRecDepth 4000 in
theorem y_E_231_14 (d : Nat) (a0 : Nat) (m : y_m) : y_R sp ph d 231 14 [some (y_bo 11 0 a0)] [] m = y_bI (y_V sp ph d 229 [y_bo 11 0 a0] m) (fun v1 m1 => y_rI v1 m1) (fun e m1 => y_px e m1) := by
  rw [y_R_eq (md := z_md_231) rfl rfl]
  exact (y_bIc fun v1 m1 => (y_sh (L' := [some (y_bo 11 0 a0)]) (S' := [y_bi v1]) rfl rfl rfl))
set_option maxRecDepth 4000 in
theorem y_C_231 (d : Nat) (a0 : Nat) (m : y_m) : y_V sp ph (d + 1) 231 [y_bo 11 0 a0] m = y_R sp ph d 231 0 [some (y_bo 11 0 a0)] [] m := (y_V_eq (md := z_md_231) rfl rfl rfl).trans rfl
/-! LacedHolesModel.wayLength ()J -/
set_option maxRecDepth 4000 in
theorem y_E_232_0 (d : Nat) (a0 : Nat) (m : y_m) : y_R sp ph d 232 0 [some (y_bo 11 0 a0), none, none, none] [] m = y_R sp ph d 232 4 [some (y_bo 11 0 a0), some (y_bl 0), none, some (y_bi 0)] [] m := (y_R_eq (md := z_md_232) rfl rfl).trans rfl
set_option maxRecDepth 4000 in
theorem y_E_232_4 (d : Nat) (a0 : Nat) (x1 : Int) (x3 : Int) (m : y_m) : y_R sp ph d 232 4 [some (y_bo 11 0 a0), some (y_bl x1), none, some (y_bi x3)] [] m = if z_w (y_mI m a0 13) ≤ z_w x3 then y_R sp ph d 232 36 [none, some (y_bl x1), none, none] [] m else y_g (0 ≤ x3 ∧ x3 < (12 : Int)) (y_bI (y_V sp ph d 225 [y_bo 11 0 a0, y_bi x3] m) (fun v1 m1 => y_bL (y_V sp ph d 212 [y_bo 11 0 a0, y_bi (y_mI m 54 x3.toNat), y_bi v1] m1) (fun v2 m2 => y_R sp ph d 232 4 [some (y_bo 11 0 a0), some (y_bl (x1 + v2)), none, some (y_bi (x3 + 1))] [] m2) (fun e m1 => y_px e m1)) (fun e m1 => y_px e m1)) := by
  rw [y_R_eq (md := z_md_232) rfl rfl]
  exact (y_ic rfl (y_gc (y_bIc fun v1 m1 => (y_sh (L' := [some (y_bo 11 0 a0), some (y_bl x1), none, some (y_bi x3)]) (S' := [y_bi v1, y_bi (y_mI m 54 x3.toNat), y_bo 11 0 a0, y_bl x1]) rfl rfl (y_bLc fun v2 m2 => (y_sh (L' := [some (y_bo 11 0 a0), some (y_bl x1), none, some (y_bi x3)]) (S' := [y_bl v2, y_bl x1]) rfl rfl rfl))))))
set_option maxRecDepth 4000 in
theorem y_E_232_36 (d : Nat) (x1 : Int) (m : y_m) : y_R sp ph d 232 36 [none, some (y_bl x1), none, none] [] m = y_rL x1 m := (y_R_eq (md := z_md_232) rfl rfl).trans rfl
set_option maxRecDepth 4000 in
theorem y_C_232 (d : Nat) (a0 : Nat) (m : y_m) : y_V sp ph (d + 1) 232 [y_bo 11 0 a0] m = y_R sp ph d 232 0 [some (y_bo 11 0 a0), none, none, none] [] m := (y_V_eq (md := z_md_232) rfl rfl rfl).trans rfl
/-! LacedHolesModel.isShortEnough (J)Z -/
set_option maxRecDepth 4000 in
theorem y_E_233_0 (d : Nat) (a0 : Nat) (x1 : Int) (m : y_m) : y_R sp ph d 233 0 [some (y_bo 11 0 a0), some (y_bl x1), none] [] m = y_bV (y_V sp ph d 220 [y_bo 11 0 a0, y_bl x1, y_bi 0] m) (fun m1 => y_bI (y_V sp ph d 217 [y_bo 11 0 a0, y_bi 0] (y_sI m1 92 0 ((y_mI m1 92 0) - (y_mI m1 52 5)))) (fun v2 m2 => if 0 < z_w v2 then y_R sp ph d 233 33 [none, none, none] [] m2 else y_R sp ph d 233 34 [none, none, none] [y_bi 1] m2) (fun e m1 => y_px e m1)) (fun e m1 => y_px e m1) := by
  rw [y_R_eq (md := z_md_233) rfl rfl]
  exact (y_bVc fun m1 => (y_sh (L' := [some (y_bo 11 0 a0), some (y_bl x1), none]) (S' := []) rfl rfl (y_bIc fun v2 m2 => (y_sh (L' := [some (y_bo 11 0 a0), some (y_bl x1), none]) (S' := [y_bi v2]) rfl rfl rfl))))
set_option maxRecDepth 4000 in
theorem y_E_233_33 (d : Nat) (m : y_m) : y_R sp ph d 233 33 [none, none, none] [] m = y_R sp ph d 233 34 [none, none, none] [y_bi 0] m := (y_R_eq (md := z_md_233) rfl rfl).trans rfl
set_option maxRecDepth 4000 in
theorem y_E_233_34 (d : Nat) (xs0 : Int) (m : y_m) : y_R sp ph d 233 34 [none, none, none] [y_bi xs0] m = y_g (xs0 = 0 ∨ xs0 = 1) (y_rI xs0 m) := (y_R_eq (md := z_md_233) rfl rfl).trans rfl
set_option maxRecDepth 4000 in
theorem y_C_233 (d : Nat) (a0 : Nat) (x1 : Int) (m : y_m) : y_V sp ph (d + 1) 233 [y_bo 11 0 a0, y_bl x1] m = y_R sp ph d 233 0 [some (y_bo 11 0 a0), some (y_bl x1), none] [] m := (y_V_eq (md := z_md_233) rfl rfl rfl).trans rfl
/-! LacedHolesModel.measure (I)I -/
set_option maxRecDepth 4000 in
theorem y_E_234_0 (d : Nat) (a0 : Nat) (x1 : Int) (m : y_m) : y_R sp ph d 234 0 [some (y_bo 11 0 a0), some (y_bi x1), none, none, none, none, none] [] m = y_bI (y_V sp ph d 230 [y_bo 11 0 a0] (y_sI m a0 0 0)) (fun v1 m1 => if ¬ z_w v1 = 0 then y_R sp ph d 234 34 [none, none, none, none, none, none, none] [] m1 else y_bI (y_V sp ph d 180 [y_bi x1, y_bi 0, y_bi 4] m1) (fun v2 m2 => if ¬ z_w v2 = 0 then y_R sp ph d 234 26 [some (y_bo 11 0 a0), some (y_bi x1), none, none, none, none, none] [y_bo 11 0 a0] m2 else y_R sp ph d 234 27 [some (y_bo 11 0 a0), some (y_bi x1), none, none, none, none, none] [y_bi 1, y_bo 11 0 a0] m2) (fun e m1 => y_px e m1)) (fun e m1 => y_px e m1) := by
  rw [y_R_eq (md := z_md_234) rfl rfl]
  exact (y_bIc fun v1 m1 => (y_sh (L' := [some (y_bo 11 0 a0), some (y_bi x1), none, none, none, none, none]) (S' := [y_bi v1]) rfl rfl (y_ic rfl (y_bIc fun v2 m2 => (y_sh (L' := [some (y_bo 11 0 a0), some (y_bi x1), none, none, none, none, none]) (S' := [y_bi v2, y_bo 11 0 a0]) rfl rfl rfl)))))
set_option maxRecDepth 4000 in
theorem y_E_234_26 (d : Nat) (a0 : Nat) (x1 : Int) (as0 : Nat) (m : y_m) : y_R sp ph d 234 26 [some (y_bo 11 0 a0), some (y_bi x1), none, none, none, none, none] [y_bo 11 0 as0] m = y_R sp ph d 234 27 [some (y_bo 11 0 a0), some (y_bi x1), none, none, none, none, none] [y_bi 0, y_bo 11 0 as0] m := (y_R_eq (md := z_md_234) rfl rfl).trans rfl
set_option maxRecDepth 4000 in
theorem y_E_234_27 (d : Nat) (a0 : Nat) (x1 : Int) (xs0 : Int) (as1 : Nat) (m : y_m) : y_R sp ph d 234 27 [some (y_bo 11 0 a0), some (y_bi x1), none, none, none, none, none] [y_bi xs0, y_bo 11 0 as1] m = y_bI (y_V sp ph d 179 [y_bo 11 0 as1, y_bi xs0, y_bi 2] m) (fun v1 m1 => if z_w v1 = 0 then y_R sp ph d 234 36 [some (y_bo 11 0 a0), some (y_bi x1), none, none, none, none, none] [] m1 else y_R sp ph d 234 34 [none, none, none, none, none, none, none] [] m1) (fun e m1 => y_px e m1) := by
  rw [y_R_eq (md := z_md_234) rfl rfl]
  exact (y_bIc fun v1 m1 => (y_sh (L' := [some (y_bo 11 0 a0), some (y_bi x1), none, none, none, none, none]) (S' := [y_bi v1]) rfl rfl rfl))
set_option maxRecDepth 4000 in
theorem y_E_234_34 (d : Nat) (m : y_m) : y_R sp ph d 234 34 [none, none, none, none, none, none, none] [] m = y_rI 0 m := (y_R_eq (md := z_md_234) rfl rfl).trans rfl
set_option maxRecDepth 4000 in
theorem y_E_234_36 (d : Nat) (a0 : Nat) (x1 : Int) (m : y_m) : y_R sp ph d 234 36 [some (y_bo 11 0 a0), some (y_bi x1), none, none, none, none, none] [] m = if 2 ≤ z_w x1 then y_R sp ph d 234 60 [some (y_bo 11 0 a0), some (y_bi x1), none, none, none, none, none] [] m else y_bL (y_V sp ph d 232 [y_bo 11 0 a0] m) (fun v1 m1 => if ¬ z_w x1 = 1 then y_R sp ph d 234 55 [none, none, none, none, none, none, none] [y_bl v1, y_bo 11 0 a0] m1 else y_R sp ph d 234 56 [none, none, none, none, none, none, none] [y_bi 1, y_bl v1, y_bo 11 0 a0] m1) (fun e m1 => y_px e m1) := by
  rw [y_R_eq (md := z_md_234) rfl rfl]
  exact (y_ic rfl (y_bLc fun v1 m1 => (y_sh (L' := [some (y_bo 11 0 a0), some (y_bi x1), none, none, none, none, none]) (S' := [y_bl v1, y_bo 11 0 a0]) rfl rfl rfl)))
set_option maxRecDepth 4000 in
theorem y_E_234_55 (d : Nat) (xs0 : Int) (as1 : Nat) (m : y_m) : y_R sp ph d 234 55 [none, none, none, none, none, none, none] [y_bl xs0, y_bo 11 0 as1] m = y_R sp ph d 234 56 [none, none, none, none, none, none, none] [y_bi 0, y_bl xs0, y_bo 11 0 as1] m := (y_R_eq (md := z_md_234) rfl rfl).trans rfl
set_option maxRecDepth 4000 in
theorem y_E_234_56 (d : Nat) (xs0 : Int) (xs1 : Int) (as2 : Nat) (m : y_m) : y_R sp ph d 234 56 [none, none, none, none, none, none, none] [y_bi xs0, y_bl xs1, y_bo 11 0 as2] m = y_bI (y_V sp ph d 221 [y_bo 11 0 as2, y_bl xs1, y_bi xs0] m) (fun v1 m1 => y_rI v1 m1) (fun e m1 => y_px e m1) := by
  rw [y_R_eq (md := z_md_234) rfl rfl]
  exact (y_bIc fun v1 m1 => (y_sh (L' := [none, none, none, none, none, none, none]) (S' := [y_bi v1]) rfl rfl rfl))
set_option maxRecDepth 4000 in
theorem y_E_234_60 (d : Nat) (a0 : Nat) (x1 : Int) (m : y_m) : y_R sp ph d 234 60 [some (y_bo 11 0 a0), some (y_bi x1), none, none, none, none, none] [] m = if ¬ z_w x1 = 4 then y_R sp ph d 234 82 [some (y_bo 11 0 a0), some (y_bi x1), none, none, none, none, none] [] m else y_bL (y_V sp ph d 232 [y_bo 11 0 a0] m) (fun v1 m1 => y_bI (y_V sp ph d 233 [y_bo 11 0 a0, y_bl v1] m1) (fun v2 m2 => if z_w v2 = 0 then y_R sp ph d 234 80 [none, none, none, none, none, none, none] [] m2 else y_R sp ph d 234 81 [none, none, none, none, none, none, none] [y_bi 1] m2) (fun e m1 => y_px e m1)) (fun e m1 => y_px e m1) := by
  rw [y_R_eq (md := z_md_234) rfl rfl]
  exact (y_ic rfl (y_bLc fun v1 m1 => (y_sh (L' := [some (y_bo 11 0 a0), some (y_bi x1), none, none, none, none, none]) (S' := [y_bl v1, y_bo 11 0 a0]) rfl rfl (y_bIc fun v2 m2 => (y_sh (L' := [some (y_bo 11 0 a0), some (y_bi x1), none, none, none, none, none]) (S' := [y_bi v2]) rfl rfl rfl)))))
set_option maxRecDepth 4000 in
theorem y_E_234_80 (d : Nat) (m : y_m) : y_R sp ph d 234 80 [none, none, none, none, none, none, none] [] m = y_R sp ph d 234 81 [none, none, none, none, none, none, none] [y_bi 0] m := (y_R_eq (md := z_md_234) rfl rfl).trans rfl
set_option maxRecDepth 4000 in
theorem y_E_234_81 (d : Nat) (xs0 : Int) (m : y_m) : y_R sp ph d 234 81 [none, none, none, none, none, none, none] [y_bi xs0] m = y_rI xs0 m := (y_R_eq (md := z_md_234) rfl rfl).trans rfl
set_option maxRecDepth 4000 in
theorem y_E_234_82 (d : Nat) (a0 : Nat) (x1 : Int) (m : y_m) : y_R sp ph d 234 82 [some (y_bo 11 0 a0), some (y_bi x1), none, none, none, none, none] [] m = y_R sp ph d 234 89 [some (y_bo 11 0 a0), some (y_bi x1), some (y_bi 0), some (y_bi 0), some (y_bi 0), none, none] [] m := (y_R_eq (md := z_md_234) rfl rfl).trans rfl
set_option maxRecDepth 4000 in
theorem y_E_234_89 (d : Nat) (a0 : Nat) (x1 : Int) (x2 : Int) (x3 : Int) (x4 : Int) (m : y_m) : y_R sp ph d 234 89 [some (y_bo 11 0 a0), some (y_bi x1), some (y_bi x2), some (y_bi x3), some (y_bi x4), none, none] [] m = if z_w (y_mI m a0 13) ≤ z_w x4 then y_R sp ph d 234 173 [none, some (y_bi x1), some (y_bi x2), some (y_bi x3), none, none, none] [] m else y_bI (y_V sp ph d 226 [y_bo 11 0 a0, y_bi x4] m) (fun v1 m1 => y_g (0 ≤ x4 ∧ x4 < (12 : Int)) (y_bI (y_V sp ph d 211 [y_bo 11 0 a0, y_bi v1, y_bi (y_mI m1 54 x4.toNat)] m1) (fun v2 m2 => y_g (0 ≤ x4 ∧ x4 < (12 : Int)) (y_bI (y_V sp ph d 225 [y_bo 11 0 a0, y_bi x4] m2) (fun v3 m3 => y_bI (y_V sp ph d 211 [y_bo 11 0 a0, y_bi (y_mI m2 54 x4.toNat), y_bi v3] m3) (fun v4 m4 => if z_w v4 = 0 then y_R sp ph d 234 146 [some (y_bo 11 0 a0), some (y_bi x1), none, some (y_bi x3), some (y_bi x4), some (y_bi v2), some (y_bi v4)] [y_bi x2] m4 else y_R sp ph d 234 147 [some (y_bo 11 0 a0), some (y_bi x1), none, some (y_bi x3), some (y_bi x4), some (y_bi v2), some (y_bi v4)] [y_bi 1, y_bi x2] m4) (fun e m1 => y_px e m1)) (fun e m1 => y_px e m1))) (fun e m1 => y_px e m1))) (fun e m1 => y_px e m1) := by
  rw [y_R_eq (md := z_md_234) rfl rfl]
  exact (y_ic rfl (y_bIc fun v1 m1 => (y_sh (L' := [some (y_bo 11 0 a0), some (y_bi x1), some (y_bi x2), some (y_bi x3), some (y_bi x4), none, none]) (S' := [y_bi v1, y_bo 11 0 a0]) rfl rfl (y_gc (y_bIc fun v2 m2 => (y_sh (L' := [some (y_bo 11 0 a0), some (y_bi x1), some (y_bi x2), some (y_bi x3), some (y_bi x4), none, none]) (S' := [y_bi v2]) rfl rfl (y_gc (y_bIc fun v3 m3 => (y_sh (L' := [some (y_bo 11 0 a0), some (y_bi x1), some (y_bi x2), some (y_bi x3), some (y_bi x4), some (y_bi v2), none]) (S' := [y_bi v3, y_bi (y_mI m2 54 x4.toNat), y_bo 11 0 a0]) rfl rfl (y_bIc fun v4 m4 => (y_sh (L' := [some (y_bo 11 0 a0), some (y_bi x1), some (y_bi x2), some (y_bi x3), some (y_bi x4), some (y_bi v2), none]) (S' := [y_bi v4]) rfl rfl rfl)))))))))))
set_option maxRecDepth 4000 in
theorem y_E_234_146 (d : Nat) (a0 : Nat) (x1 : Int) (x3 : Int) (x4 : Int) (x5 : Int) (x6 : Int) (xs0 : Int) (m : y_m) : y_R sp ph d 234 146 [some (y_bo 11 0 a0), some (y_bi x1), none, some (y_bi x3), some (y_bi x4), some (y_bi x5), some (y_bi x6)] [y_bi xs0] m = y_R sp ph d 234 147 [some (y_bo 11 0 a0), some (y_bi x1), none, some (y_bi x3), some (y_bi x4), some (y_bi x5), some (y_bi x6)] [y_bi 0, y_bi xs0] m := (y_R_eq (md := z_md_234) rfl rfl).trans rfl
set_option maxRecDepth 4000 in
theorem y_E_234_147 (d : Nat) (a0 : Nat) (x1 : Int) (x3 : Int) (x4 : Int) (x5 : Int) (x6 : Int) (xs0 : Int) (xs1 : Int) (m : y_m) : y_R sp ph d 234 147 [some (y_bo 11 0 a0), some (y_bi x1), none, some (y_bi x3), some (y_bi x4), some (y_bi x5), some (y_bi x6)] [y_bi xs0, y_bi xs1] m = if ¬ z_w x5 = 0 then y_R sp ph d 234 160 [some (y_bo 11 0 a0), some (y_bi x1), some (y_bi (xs1 + xs0)), none, some (y_bi x4), none, none] [y_bi x3] m else if z_w x6 = 0 then y_R sp ph d 234 164 [some (y_bo 11 0 a0), some (y_bi x1), some (y_bi (xs1 + xs0)), none, some (y_bi x4), none, none] [y_bi x3] m else y_R sp ph d 234 160 [some (y_bo 11 0 a0), some (y_bi x1), some (y_bi (xs1 + xs0)), none, some (y_bi x4), none, none] [y_bi x3] m := (y_R_eq (md := z_md_234) rfl rfl).trans rfl
set_option maxRecDepth 4000 in
theorem y_E_234_160 (d : Nat) (a0 : Nat) (x1 : Int) (x2 : Int) (x4 : Int) (xs0 : Int) (m : y_m) : y_R sp ph d 234 160 [some (y_bo 11 0 a0), some (y_bi x1), some (y_bi x2), none, some (y_bi x4), none, none] [y_bi xs0] m = y_R sp ph d 234 165 [some (y_bo 11 0 a0), some (y_bi x1), some (y_bi x2), none, some (y_bi x4), none, none] [y_bi 0, y_bi xs0] m := (y_R_eq (md := z_md_234) rfl rfl).trans rfl
set_option maxRecDepth 4000 in
theorem y_E_234_164 (d : Nat) (a0 : Nat) (x1 : Int) (x2 : Int) (x4 : Int) (xs0 : Int) (m : y_m) : y_R sp ph d 234 164 [some (y_bo 11 0 a0), some (y_bi x1), some (y_bi x2), none, some (y_bi x4), none, none] [y_bi xs0] m = y_R sp ph d 234 165 [some (y_bo 11 0 a0), some (y_bi x1), some (y_bi x2), none, some (y_bi x4), none, none] [y_bi 1, y_bi xs0] m := (y_R_eq (md := z_md_234) rfl rfl).trans rfl
set_option maxRecDepth 4000 in
theorem y_E_234_165 (d : Nat) (a0 : Nat) (x1 : Int) (x2 : Int) (x4 : Int) (xs0 : Int) (xs1 : Int) (m : y_m) : y_R sp ph d 234 165 [some (y_bo 11 0 a0), some (y_bi x1), some (y_bi x2), none, some (y_bi x4), none, none] [y_bi xs0, y_bi xs1] m = y_R sp ph d 234 89 [some (y_bo 11 0 a0), some (y_bi x1), some (y_bi x2), some (y_bi (xs1 + xs0)), some (y_bi (x4 + 1)), none, none] [] m := (y_R_eq (md := z_md_234) rfl rfl).trans rfl
set_option maxRecDepth 4000 in
theorem y_E_234_173 (d : Nat) (x1 : Int) (x2 : Int) (x3 : Int) (m : y_m) : y_R sp ph d 234 173 [none, some (y_bi x1), some (y_bi x2), some (y_bi x3), none, none, none] [] m = if ¬ z_w x1 = 2 then y_R sp ph d 234 182 [none, none, none, some (y_bi x3), none, none, none] [] m else y_R sp ph d 234 183 [none, none, none, none, none, none, none] [y_bi x2] m := (y_R_eq (md := z_md_234) rfl rfl).trans rfl
set_option maxRecDepth 4000 in
theorem y_E_234_182 (d : Nat) (x3 : Int) (m : y_m) : y_R sp ph d 234 182 [none, none, none, some (y_bi x3), none, none, none] [] m = y_R sp ph d 234 183 [none, none, none, none, none, none, none] [y_bi x3] m := (y_R_eq (md := z_md_234) rfl rfl).trans rfl
set_option maxRecDepth 4000 in
theorem y_E_234_183 (d : Nat) (xs0 : Int) (m : y_m) : y_R sp ph d 234 183 [none, none, none, none, none, none, none] [y_bi xs0] m = y_rI xs0 m := (y_R_eq (md := z_md_234) rfl rfl).trans rfl
set_option maxRecDepth 4000 in
theorem y_C_234 (d : Nat) (a0 : Nat) (x1 : Int) (m : y_m) : y_V sp ph (d + 1) 234 [y_bo 11 0 a0, y_bi x1] m = y_R sp ph d 234 0 [some (y_bo 11 0 a0), some (y_bi x1), none, none, none, none, none] [] m := (y_V_eq (md := z_md_234) rfl rfl rfl).trans rfl
/-! LacedHolesModel.takesHoles (I)V -/
set_option maxRecDepth 4000 in
theorem y_E_235_0 (d : Nat) (a0 : Nat) (x1 : Int) (m : y_m) : y_R sp ph d 235 0 [some (y_bo 11 0 a0), some (y_bi x1), none] [] m = y_R sp ph d 235 7 [some (y_bo 11 0 a0), some (y_bi x1), some (y_bi 0)] [] (y_sI m a0 33 0) := (y_R_eq (md := z_md_235) rfl rfl).trans rfl
set_option maxRecDepth 4000 in
theorem y_E_235_7 (d : Nat) (a0 : Nat) (x1 : Int) (x2 : Int) (m : y_m) : y_R sp ph d 235 7 [some (y_bo 11 0 a0), some (y_bi x1), some (y_bi x2)] [] m = if 12 ≤ z_w x2 then y_R sp ph d 235 50 [none, none, none] [] m else if ¬ z_w (z_iand (z_ishr x1 x2) 1) = 0 then y_R sp ph d 235 24 [some (y_bo 11 0 a0), some (y_bi x1), some (y_bi x2)] [] m else y_R sp ph d 235 44 [some (y_bo 11 0 a0), some (y_bi x1), some (y_bi x2)] [] m := (y_R_eq (md := z_md_235) rfl rfl).trans rfl
set_option maxRecDepth 4000 in
theorem y_E_235_24 (d : Nat) (a0 : Nat) (x1 : Int) (x2 : Int) (m : y_m) : y_R sp ph d 235 24 [some (y_bo 11 0 a0), some (y_bi x1), some (y_bi x2)] [] m = y_g (0 ≤ y_mI m a0 33 ∧ y_mI m a0 33 < (12 : Int)) (y_R sp ph d 235 44 [some (y_bo 11 0 a0), some (y_bi x1), some (y_bi x2)] [] (y_sI (y_sI m 94 (y_mI m a0 33).toNat x2) a0 33 ((y_mI (y_sI m 94 (y_mI m a0 33).toNat x2) a0 33) + 1))) := (y_R_eq (md := z_md_235) rfl rfl).trans rfl
set_option maxRecDepth 4000 in
theorem y_E_235_44 (d : Nat) (a0 : Nat) (x1 : Int) (x2 : Int) (m : y_m) : y_R sp ph d 235 44 [some (y_bo 11 0 a0), some (y_bi x1), some (y_bi x2)] [] m = y_R sp ph d 235 7 [some (y_bo 11 0 a0), some (y_bi x1), some (y_bi (x2 + 1))] [] m := (y_R_eq (md := z_md_235) rfl rfl).trans rfl
set_option maxRecDepth 4000 in
theorem y_E_235_50 (d : Nat) (m : y_m) : y_R sp ph d 235 50 [none, none, none] [] m = y_rV m := (y_R_eq (md := z_md_235) rfl rfl).trans rfl
set_option maxRecDepth 4000 in
theorem y_C_235 (d : Nat) (a0 : Nat) (x1 : Int) (m : y_m) : y_V sp ph (d + 1) 235 [y_bo 11 0 a0, y_bi x1] m = y_R sp ph d 235 0 [some (y_bo 11 0 a0), some (y_bi x1), none] [] m := (y_V_eq (md := z_md_235) rfl rfl rfl).trans rfl
/-! LacedHolesModel.state (IIZZ)I -/
set_option maxRecDepth 4000 in
theorem y_E_236_0 (d : Nat) (x1 : Int) (x2 : Int) (x3 : Int) (x4 : Int) (m : y_m) : y_R sp ph d 236 0 [none, some (y_bi x1), some (y_bi x2), some (y_bi x3), some (y_bi x4)] [] m = if z_w x3 = 0 then y_R sp ph d 236 16 [none, none, none, none, some (y_bi x4)] [y_bi (((x1 * 12) + x2) * 4)] m else y_R sp ph d 236 17 [none, none, none, none, some (y_bi x4)] [y_bi 2, y_bi (((x1 * 12) + x2) * 4)] m := (y_R_eq (md := z_md_236) rfl rfl).trans rfl
set_option maxRecDepth 4000 in
theorem y_E_236_16 (d : Nat) (x4 : Int) (xs0 : Int) (m : y_m) : y_R sp ph d 236 16 [none, none, none, none, some (y_bi x4)] [y_bi xs0] m = y_R sp ph d 236 17 [none, none, none, none, some (y_bi x4)] [y_bi 0, y_bi xs0] m := (y_R_eq (md := z_md_236) rfl rfl).trans rfl
set_option maxRecDepth 4000 in
theorem y_E_236_17 (d : Nat) (x4 : Int) (xs0 : Int) (xs1 : Int) (m : y_m) : y_R sp ph d 236 17 [none, none, none, none, some (y_bi x4)] [y_bi xs0, y_bi xs1] m = if z_w x4 = 0 then y_R sp ph d 236 27 [none, none, none, none, none] [y_bi (xs1 + xs0)] m else y_R sp ph d 236 28 [none, none, none, none, none] [y_bi 1, y_bi (xs1 + xs0)] m := (y_R_eq (md := z_md_236) rfl rfl).trans rfl
set_option maxRecDepth 4000 in
theorem y_E_236_27 (d : Nat) (xs0 : Int) (m : y_m) : y_R sp ph d 236 27 [none, none, none, none, none] [y_bi xs0] m = y_R sp ph d 236 28 [none, none, none, none, none] [y_bi 0, y_bi xs0] m := (y_R_eq (md := z_md_236) rfl rfl).trans rfl
set_option maxRecDepth 4000 in
theorem y_E_236_28 (d : Nat) (xs0 : Int) (xs1 : Int) (m : y_m) : y_R sp ph d 236 28 [none, none, none, none, none] [y_bi xs0, y_bi xs1] m = y_rI (xs1 + xs0) m := (y_R_eq (md := z_md_236) rfl rfl).trans rfl
set_option maxRecDepth 4000 in
theorem y_C_236 (d : Nat) (a0 : Nat) (x1 : Int) (x2 : Int) (x3 : Int) (x4 : Int) (m : y_m) : y_V sp ph (d + 1) 236 [y_bo 11 0 a0, y_bi x1, y_bi x2, y_bi x3, y_bi x4] m = y_R sp ph d 236 0 [none, some (y_bi x1), some (y_bi x2), some (y_bi x3), some (y_bi x4)] [] m := (y_V_eq (md := z_md_236) rfl rfl rfl).trans rfl
/-! LacedHolesModel.all ()I -/
set_option maxRecDepth 4000 in
theorem y_E_237_0 (d : Nat) (a0 : Nat) (m : y_m) : y_R sp ph d 237 0 [some (y_bo 11 0 a0)] [] m = y_rI ((z_ishl 1 ((y_mI m a0 33) - 1)) - 1) m := (y_R_eq (md := z_md_237) rfl rfl).trans rfl
set_option maxRecDepth 4000 in
theorem y_C_237 (d : Nat) (a0 : Nat) (m : y_m) : y_V sp ph (d + 1) 237 [y_bo 11 0 a0] m = y_R sp ph d 237 0 [some (y_bo 11 0 a0)] [] m := (y_V_eq (md := z_md_237) rfl rfl rfl).trans rfl
/-! LacedHolesModel.laysWays (I)V -/
set_option maxRecDepth 4000 in
theorem y_E_238_0 (d : Nat) (a0 : Nat) (x1 : Int) (m : y_m) : y_R sp ph d 238 0 [some (y_bo 11 0 a0), some (y_bi x1), none, none, none] [] m = y_bI (y_V sp ph d 237 [y_bo 11 0 a0] m) (fun v1 m1 => y_R sp ph d 238 5 [some (y_bo 11 0 a0), some (y_bi x1), some (y_bi v1), none, none] [] m1) (fun e m1 => y_px e m1) := by
  rw [y_R_eq (md := z_md_238) rfl rfl]
  exact (y_bIc fun v1 m1 => (y_sh (L' := [some (y_bo 11 0 a0), some (y_bi x1), none, none, none]) (S' := [y_bi v1]) rfl rfl rfl))
set_option maxRecDepth 4000 in
theorem y_E_238_5 (d : Nat) (a0 : Nat) (x1 : Int) (x2 : Int) (m : y_m) : y_R sp ph d 238 5 [some (y_bo 11 0 a0), some (y_bi x1), some (y_bi x2), none, none] [] m = if z_w x2 ≤ 0 then y_R sp ph d 238 125 [none, none, none, none, none] [] m else y_R sp ph d 238 11 [some (y_bo 11 0 a0), some (y_bi x1), some (y_bi x2), some (y_bi 1), none] [] m := (y_R_eq (md := z_md_238) rfl rfl).trans rfl
set_option maxRecDepth 4000 in
theorem y_E_238_11 (d : Nat) (a0 : Nat) (x1 : Int) (x2 : Int) (x3 : Int) (m : y_m) : y_R sp ph d 238 11 [some (y_bo 11 0 a0), some (y_bi x1), some (y_bi x2), some (y_bi x3), none] [] m = if z_w (y_mI m a0 33) ≤ z_w x3 then y_R sp ph d 238 119 [some (y_bo 11 0 a0), some (y_bi x1), some (y_bi x2), none, none] [] m else if ¬ z_w (z_iand (z_ishr x2 (x3 - 1)) 1) = 0 then y_R sp ph d 238 32 [some (y_bo 11 0 a0), some (y_bi x1), some (y_bi x2), some (y_bi x3), none] [] m else y_R sp ph d 238 113 [some (y_bo 11 0 a0), some (y_bi x1), some (y_bi x2), some (y_bi x3), none] [] m := (y_R_eq (md := z_md_238) rfl rfl).trans rfl
set_option maxRecDepth 4000 in
theorem y_E_238_32 (d : Nat) (a0 : Nat) (x1 : Int) (x2 : Int) (x3 : Int) (m : y_m) : y_R sp ph d 238 32 [some (y_bo 11 0 a0), some (y_bi x1), some (y_bi x2), some (y_bi x3), none] [] m = y_R sp ph d 238 35 [some (y_bo 11 0 a0), some (y_bi x1), some (y_bi x2), some (y_bi x3), some (y_bi 0)] [] m := (y_R_eq (md := z_md_238) rfl rfl).trans rfl
set_option maxRecDepth 4000 in
theorem y_E_238_35 (d : Nat) (a0 : Nat) (x1 : Int) (x2 : Int) (x3 : Int) (x4 : Int) (m : y_m) : y_R sp ph d 238 35 [some (y_bo 11 0 a0), some (y_bi x1), some (y_bi x2), some (y_bi x3), some (y_bi x4)] [] m = if 4 ≤ z_w x4 then y_R sp ph d 238 113 [some (y_bo 11 0 a0), some (y_bi x1), some (y_bi x2), some (y_bi x3), none] [] m else if z_w x4 ≤ 1 then y_R sp ph d 238 58 [some (y_bo 11 0 a0), some (y_bi x1), some (y_bi x2), some (y_bi x3), some (y_bi x4)] [y_bi x3, y_bi x2, y_bo 11 0 a0, y_bo 101 98304 95] m else y_R sp ph d 238 59 [some (y_bo 11 0 a0), some (y_bi x1), some (y_bi x2), some (y_bi x3), some (y_bi x4)] [y_bi 1, y_bi x3, y_bi x2, y_bo 11 0 a0, y_bo 101 98304 95] m := (y_R_eq (md := z_md_238) rfl rfl).trans rfl
set_option maxRecDepth 4000 in
theorem y_E_238_58 (d : Nat) (a0 : Nat) (x1 : Int) (x2 : Int) (x3 : Int) (x4 : Int) (xs0 : Int) (xs1 : Int) (as2 : Nat) (as3 : Nat) (m : y_m) : y_R sp ph d 238 58 [some (y_bo 11 0 a0), some (y_bi x1), some (y_bi x2), some (y_bi x3), some (y_bi x4)] [y_bi xs0, y_bi xs1, y_bo 11 0 as2, y_bo 101 98304 as3] m = y_R sp ph d 238 59 [some (y_bo 11 0 a0), some (y_bi x1), some (y_bi x2), some (y_bi x3), some (y_bi x4)] [y_bi 0, y_bi xs0, y_bi xs1, y_bo 11 0 as2, y_bo 101 98304 as3] m := (y_R_eq (md := z_md_238) rfl rfl).trans rfl
set_option maxRecDepth 4000 in
theorem y_E_238_59 (d : Nat) (a0 : Nat) (x1 : Int) (x2 : Int) (x3 : Int) (x4 : Int) (xs0 : Int) (xs1 : Int) (xs2 : Int) (as3 : Nat) (as4 : Nat) (m : y_m) : y_R sp ph d 238 59 [some (y_bo 11 0 a0), some (y_bi x1), some (y_bi x2), some (y_bi x3), some (y_bi x4)] [y_bi xs0, y_bi xs1, y_bi xs2, y_bo 11 0 as3, y_bo 101 98304 as4] m = if ¬ z_w (z_irem x4 2) = 1 then y_R sp ph d 238 71 [some (y_bo 11 0 a0), some (y_bi x1), some (y_bi x2), some (y_bi x3), some (y_bi x4)] [y_bi xs0, y_bi xs1, y_bi xs2, y_bo 11 0 as3, y_bo 101 98304 as4] m else y_R sp ph d 238 72 [some (y_bo 11 0 a0), some (y_bi x1), some (y_bi x2), some (y_bi x3), some (y_bi x4)] [y_bi 1, y_bi xs0, y_bi xs1, y_bi xs2, y_bo 11 0 as3, y_bo 101 98304 as4] m := (y_R_eq (md := z_md_238) rfl rfl).trans rfl
set_option maxRecDepth 4000 in
theorem y_E_238_71 (d : Nat) (a0 : Nat) (x1 : Int) (x2 : Int) (x3 : Int) (x4 : Int) (xs0 : Int) (xs1 : Int) (xs2 : Int) (as3 : Nat) (as4 : Nat) (m : y_m) : y_R sp ph d 238 71 [some (y_bo 11 0 a0), some (y_bi x1), some (y_bi x2), some (y_bi x3), some (y_bi x4)] [y_bi xs0, y_bi xs1, y_bi xs2, y_bo 11 0 as3, y_bo 101 98304 as4] m = y_R sp ph d 238 72 [some (y_bo 11 0 a0), some (y_bi x1), some (y_bi x2), some (y_bi x3), some (y_bi x4)] [y_bi 0, y_bi xs0, y_bi xs1, y_bi xs2, y_bo 11 0 as3, y_bo 101 98304 as4] m := (y_R_eq (md := z_md_238) rfl rfl).trans rfl
set_option maxRecDepth 4000 in
theorem y_E_238_72 (d : Nat) (a0 : Nat) (x1 : Int) (x2 : Int) (x3 : Int) (x4 : Int) (xs0 : Int) (xs1 : Int) (xs2 : Int) (xs3 : Int) (as4 : Nat) (as5 : Nat) (m : y_m) : y_R sp ph d 238 72 [some (y_bo 11 0 a0), some (y_bi x1), some (y_bi x2), some (y_bi x3), some (y_bi x4)] [y_bi xs0, y_bi xs1, y_bi xs2, y_bi xs3, y_bo 11 0 as4, y_bo 101 98304 as5] m = y_bI (y_V sp ph d 236 [y_bo 11 0 as4, y_bi xs3, y_bi xs2, y_bi xs1, y_bi xs0] m) (fun v1 m1 => if z_w x4 ≤ 1 then y_R sp ph d 238 88 [some (y_bo 11 0 a0), some (y_bi x1), some (y_bi x2), some (y_bi x3), some (y_bi x4)] [y_bi x3, y_bi x2, y_bo 11 0 a0, y_bi v1, y_bo 101 98304 as5] m1 else y_R sp ph d 238 89 [some (y_bo 11 0 a0), some (y_bi x1), some (y_bi x2), some (y_bi x3), some (y_bi x4)] [y_bi 1, y_bi x3, y_bi x2, y_bo 11 0 a0, y_bi v1, y_bo 101 98304 as5] m1) (fun e m1 => y_px e m1) := by
  rw [y_R_eq (md := z_md_238) rfl rfl]
  exact (y_bIc fun v1 m1 => (y_sh (L' := [some (y_bo 11 0 a0), some (y_bi x1), some (y_bi x2), some (y_bi x3), some (y_bi x4)]) (S' := [y_bi v1, y_bo 101 98304 as5]) rfl rfl rfl))
set_option maxRecDepth 4000 in
theorem y_E_238_88 (d : Nat) (a0 : Nat) (x1 : Int) (x2 : Int) (x3 : Int) (x4 : Int) (xs0 : Int) (xs1 : Int) (as2 : Nat) (xs3 : Int) (as4 : Nat) (m : y_m) : y_R sp ph d 238 88 [some (y_bo 11 0 a0), some (y_bi x1), some (y_bi x2), some (y_bi x3), some (y_bi x4)] [y_bi xs0, y_bi xs1, y_bo 11 0 as2, y_bi xs3, y_bo 101 98304 as4] m = y_R sp ph d 238 89 [some (y_bo 11 0 a0), some (y_bi x1), some (y_bi x2), some (y_bi x3), some (y_bi x4)] [y_bi 0, y_bi xs0, y_bi xs1, y_bo 11 0 as2, y_bi xs3, y_bo 101 98304 as4] m := (y_R_eq (md := z_md_238) rfl rfl).trans rfl
set_option maxRecDepth 4000 in
theorem y_E_238_89 (d : Nat) (a0 : Nat) (x1 : Int) (x2 : Int) (x3 : Int) (x4 : Int) (xs0 : Int) (xs1 : Int) (xs2 : Int) (as3 : Nat) (xs4 : Int) (as5 : Nat) (m : y_m) : y_R sp ph d 238 89 [some (y_bo 11 0 a0), some (y_bi x1), some (y_bi x2), some (y_bi x3), some (y_bi x4)] [y_bi xs0, y_bi xs1, y_bi xs2, y_bo 11 0 as3, y_bi xs4, y_bo 101 98304 as5] m = if ¬ z_w (z_irem x4 2) = 1 then y_R sp ph d 238 101 [some (y_bo 11 0 a0), some (y_bi x1), some (y_bi x2), some (y_bi x3), some (y_bi x4)] [y_bi xs0, y_bi xs1, y_bi xs2, y_bo 11 0 as3, y_bi xs4, y_bo 101 98304 as5] m else y_R sp ph d 238 102 [some (y_bo 11 0 a0), some (y_bi x1), some (y_bi x2), some (y_bi x3), some (y_bi x4)] [y_bi 1, y_bi xs0, y_bi xs1, y_bi xs2, y_bo 11 0 as3, y_bi xs4, y_bo 101 98304 as5] m := (y_R_eq (md := z_md_238) rfl rfl).trans rfl
set_option maxRecDepth 4000 in
theorem y_E_238_101 (d : Nat) (a0 : Nat) (x1 : Int) (x2 : Int) (x3 : Int) (x4 : Int) (xs0 : Int) (xs1 : Int) (xs2 : Int) (as3 : Nat) (xs4 : Int) (as5 : Nat) (m : y_m) : y_R sp ph d 238 101 [some (y_bo 11 0 a0), some (y_bi x1), some (y_bi x2), some (y_bi x3), some (y_bi x4)] [y_bi xs0, y_bi xs1, y_bi xs2, y_bo 11 0 as3, y_bi xs4, y_bo 101 98304 as5] m = y_R sp ph d 238 102 [some (y_bo 11 0 a0), some (y_bi x1), some (y_bi x2), some (y_bi x3), some (y_bi x4)] [y_bi 0, y_bi xs0, y_bi xs1, y_bi xs2, y_bo 11 0 as3, y_bi xs4, y_bo 101 98304 as5] m := (y_R_eq (md := z_md_238) rfl rfl).trans rfl
set_option maxRecDepth 4000 in
theorem y_E_238_102 (d : Nat) (a0 : Nat) (x1 : Int) (x2 : Int) (x3 : Int) (x4 : Int) (xs0 : Int) (xs1 : Int) (xs2 : Int) (xs3 : Int) (as4 : Nat) (xs5 : Int) (as6 : Nat) (m : y_m) : y_R sp ph d 238 102 [some (y_bo 11 0 a0), some (y_bi x1), some (y_bi x2), some (y_bi x3), some (y_bi x4)] [y_bi xs0, y_bi xs1, y_bi xs2, y_bi xs3, y_bo 11 0 as4, y_bi xs5, y_bo 101 98304 as6] m = y_bL (y_V sp ph d 239 [y_bo 11 0 as4, y_bi xs3, y_bi xs2, y_bi xs1, y_bi xs0, y_bi x1] m) (fun v1 m1 => y_g (0 ≤ xs5 ∧ xs5 < (98304 : Int)) (y_R sp ph d 238 35 [some (y_bo 11 0 a0), some (y_bi x1), some (y_bi x2), some (y_bi x3), some (y_bi (x4 + 1))] [] (y_sJ m1 as6 xs5.toNat v1))) (fun e m1 => y_px e m1) := by
  rw [y_R_eq (md := z_md_238) rfl rfl]
  exact (y_bLc fun v1 m1 => (y_sh (L' := [some (y_bo 11 0 a0), some (y_bi x1), some (y_bi x2), some (y_bi x3), some (y_bi x4)]) (S' := [y_bl v1, y_bi xs5, y_bo 101 98304 as6]) rfl rfl rfl))
set_option maxRecDepth 4000 in
theorem y_E_238_113 (d : Nat) (a0 : Nat) (x1 : Int) (x2 : Int) (x3 : Int) (m : y_m) : y_R sp ph d 238 113 [some (y_bo 11 0 a0), some (y_bi x1), some (y_bi x2), some (y_bi x3), none] [] m = y_R sp ph d 238 11 [some (y_bo 11 0 a0), some (y_bi x1), some (y_bi x2), some (y_bi (x3 + 1)), none] [] m := (y_R_eq (md := z_md_238) rfl rfl).trans rfl
set_option maxRecDepth 4000 in
theorem y_E_238_119 (d : Nat) (a0 : Nat) (x1 : Int) (x2 : Int) (m : y_m) : y_R sp ph d 238 119 [some (y_bo 11 0 a0), some (y_bi x1), some (y_bi x2), none, none] [] m = y_R sp ph d 238 5 [some (y_bo 11 0 a0), some (y_bi x1), some (y_bi (x2 + (-1))), none, none] [] m := (y_R_eq (md := z_md_238) rfl rfl).trans rfl
set_option maxRecDepth 4000 in
theorem y_E_238_125 (d : Nat) (m : y_m) : y_R sp ph d 238 125 [none, none, none, none, none] [] m = y_rV m := (y_R_eq (md := z_md_238) rfl rfl).trans rfl
set_option maxRecDepth 4000 in
theorem y_C_238 (d : Nat) (a0 : Nat) (x1 : Int) (m : y_m) : y_V sp ph (d + 1) 238 [y_bo 11 0 a0, y_bi x1] m = y_R sp ph d 238 0 [some (y_bo 11 0 a0), some (y_bi x1), none, none, none] [] m := (y_V_eq (md := z_md_238) rfl rfl rfl).trans rfl
/-! LacedHolesModel.waysFrom (IIZZI)J -/
set_option maxRecDepth 4000 in
theorem y_E_239_0 (d : Nat) (a0 : Nat) (x1 : Int) (x2 : Int) (x3 : Int) (x4 : Int) (x5 : Int) (m : y_m) : y_R sp ph d 239 0 [some (y_bo 11 0 a0), some (y_bi x1), some (y_bi x2), some (y_bi x3), some (y_bi x4), some (y_bi x5), none, none, none, none] [] m = y_bI (y_V sp ph d 237 [y_bo 11 0 a0] m) (fun v1 m1 => if ¬ z_w x1 = z_w v1 then y_R sp ph d 239 59 [some (y_bo 11 0 a0), some (y_bi x1), some (y_bi x2), some (y_bi x3), some (y_bi x4), none, none, none, none, none] [] m1 else y_g (0 ≤ x2 ∧ x2 < (12 : Int)) (y_bI (y_V sp ph d 211 [y_bo 11 0 a0, y_bi (y_mI m1 94 x2.toNat), y_bi (y_mI m1 94 0)] m1) (fun v2 m2 => if z_w x2 ≤ z_w x5 then y_R sp ph d 239 57 [none, none, none, none, none, none, none, none, none, none] [] m2 else y_bI (y_V sp ph d 227 [y_bo 11 0 a0, y_bi x3, y_bi v2] m2) (fun v3 m3 => if z_w v3 = 0 then y_R sp ph d 239 57 [none, none, none, none, none, none, none, none, none, none] [] m3 else y_bI (y_V sp ph d 227 [y_bo 11 0 a0, y_bi v2, y_bi x4] m3) (fun v4 m4 => if z_w v4 = 0 then y_R sp ph d 239 57 [none, none, none, none, none, none, none, none, none, none] [] m4 else y_R sp ph d 239 58 [none, none, none, none, none, none, none, none, none, none] [y_bl 1] m4) (fun e m1 => y_px e m1)) (fun e m1 => y_px e m1)) (fun e m1 => y_px e m1))) (fun e m1 => y_px e m1) := by
  rw [y_R_eq (md := z_md_239) rfl rfl]
  exact (y_bIc fun v1 m1 => (y_sh (L' := [some (y_bo 11 0 a0), some (y_bi x1), some (y_bi x2), some (y_bi x3), some (y_bi x4), some (y_bi x5), none, none, none, none]) (S' := [y_bi v1, y_bi x1]) rfl rfl (y_ic rfl (y_gc (y_bIc fun v2 m2 => (y_sh (L' := [some (y_bo 11 0 a0), some (y_bi x1), some (y_bi x2), some (y_bi x3), some (y_bi x4), some (y_bi x5), none, none, none, none]) (S' := [y_bi v2]) rfl rfl (y_ic rfl (y_bIc fun v3 m3 => (y_sh (L' := [some (y_bo 11 0 a0), some (y_bi x1), some (y_bi x2), some (y_bi x3), some (y_bi x4), some (y_bi x5), some (y_bi v2), none, none, none]) (S' := [y_bi v3]) rfl rfl (y_ic rfl (y_bIc fun v4 m4 => (y_sh (L' := [some (y_bo 11 0 a0), some (y_bi x1), some (y_bi x2), some (y_bi x3), some (y_bi x4), some (y_bi x5), some (y_bi v2), none, none, none]) (S' := [y_bi v4]) rfl rfl rfl))))))))))))
set_option maxRecDepth 4000 in
theorem y_E_239_57 (d : Nat) (m : y_m) : y_R sp ph d 239 57 [none, none, none, none, none, none, none, none, none, none] [] m = y_R sp ph d 239 58 [none, none, none, none, none, none, none, none, none, none] [y_bl 0] m := (y_R_eq (md := z_md_239) rfl rfl).trans rfl
set_option maxRecDepth 4000 in
theorem y_E_239_58 (d : Nat) (xs0 : Int) (m : y_m) : y_R sp ph d 239 58 [none, none, none, none, none, none, none, none, none, none] [y_bl xs0] m = y_rL xs0 m := (y_R_eq (md := z_md_239) rfl rfl).trans rfl
set_option maxRecDepth 4000 in
theorem y_E_239_59 (d : Nat) (a0 : Nat) (x1 : Int) (x2 : Int) (x3 : Int) (x4 : Int) (m : y_m) : y_R sp ph d 239 59 [some (y_bo 11 0 a0), some (y_bi x1), some (y_bi x2), some (y_bi x3), some (y_bi x4), none, none, none, none, none] [] m = y_R sp ph d 239 65 [some (y_bo 11 0 a0), some (y_bi x1), some (y_bi x2), some (y_bi x3), some (y_bi x4), none, some (y_bl 0), none, some (y_bi 1), none] [] m := (y_R_eq (md := z_md_239) rfl rfl).trans rfl
set_option maxRecDepth 4000 in
theorem y_E_239_65 (d : Nat) (a0 : Nat) (x1 : Int) (x2 : Int) (x3 : Int) (x4 : Int) (x6 : Int) (x8 : Int) (m : y_m) : y_R sp ph d 239 65 [some (y_bo 11 0 a0), some (y_bi x1), some (y_bi x2), some (y_bi x3), some (y_bi x4), none, some (y_bl x6), none, some (y_bi x8), none] [] m = if z_w (y_mI m a0 33) ≤ z_w x8 then y_R sp ph d 239 148 [none, none, none, none, none, none, some (y_bl x6), none, none, none] [] m else y_g (0 ≤ x2 ∧ x2 < (12 : Int)) (y_g (0 ≤ x8 ∧ x8 < (12 : Int)) (y_bI (y_V sp ph d 211 [y_bo 11 0 a0, y_bi (y_mI m 94 x2.toNat), y_bi (y_mI m 94 x8.toNat)] m) (fun v1 m1 => if ¬ z_w (z_iand (z_ishr x1 (x8 - 1)) 1) = 0 then y_R sp ph d 239 142 [some (y_bo 11 0 a0), some (y_bi x1), some (y_bi x2), some (y_bi x3), some (y_bi x4), none, some (y_bl x6), none, some (y_bi x8), none] [] m1 else y_bI (y_V sp ph d 227 [y_bo 11 0 a0, y_bi x3, y_bi v1] m1) (fun v2 m2 => if z_w v2 = 0 then y_R sp ph d 239 142 [some (y_bo 11 0 a0), some (y_bi x1), some (y_bi x2), some (y_bi x3), some (y_bi x4), none, some (y_bl x6), none, some (y_bi x8), none] [] m2 else y_bI (y_V sp ph d 236 [y_bo 11 0 a0, y_bi (z_ior x1 (z_ishl 1 (x8 - 1))), y_bi x8, y_bi v1, y_bi x4] m2) (fun v3 m3 => y_g (0 ≤ v3 ∧ v3 < (98304 : Int)) (y_R sp ph d 239 142 [some (y_bo 11 0 a0), some (y_bi x1), some (y_bi x2), some (y_bi x3), some (y_bi x4), none, some (y_bl (x6 + (y_mJ m3 95 v3.toNat))), none, some (y_bi x8), none] [] m3)) (fun e m1 => y_px e m1)) (fun e m1 => y_px e m1)) (fun e m1 => y_px e m1))) := by
  rw [y_R_eq (md := z_md_239) rfl rfl]
  exact (y_ic rfl (y_gc (y_gc (y_bIc fun v1 m1 => (y_sh (L' := [some (y_bo 11 0 a0), some (y_bi x1), some (y_bi x2), some (y_bi x3), some (y_bi x4), none, some (y_bl x6), none, some (y_bi x8), none]) (S' := [y_bi v1]) rfl rfl (y_ic rfl (y_bIc fun v2 m2 => (y_sh (L' := [some (y_bo 11 0 a0), some (y_bi x1), some (y_bi x2), some (y_bi x3), some (y_bi x4), none, some (y_bl x6), none, some (y_bi x8), some (y_bi v1)]) (S' := [y_bi v2]) rfl rfl (y_ic rfl (y_bIc fun v3 m3 => (y_sh (L' := [some (y_bo 11 0 a0), some (y_bi x1), some (y_bi x2), some (y_bi x3), some (y_bi x4), none, some (y_bl x6), none, some (y_bi x8), some (y_bi v1)]) (S' := [y_bi v3, y_bo 101 98304 95, y_bl x6]) rfl rfl rfl)))))))))))
set_option maxRecDepth 4000 in
theorem y_E_239_142 (d : Nat) (a0 : Nat) (x1 : Int) (x2 : Int) (x3 : Int) (x4 : Int) (x6 : Int) (x8 : Int) (m : y_m) : y_R sp ph d 239 142 [some (y_bo 11 0 a0), some (y_bi x1), some (y_bi x2), some (y_bi x3), some (y_bi x4), none, some (y_bl x6), none, some (y_bi x8), none] [] m = y_R sp ph d 239 65 [some (y_bo 11 0 a0), some (y_bi x1), some (y_bi x2), some (y_bi x3), some (y_bi x4), none, some (y_bl x6), none, some (y_bi (x8 + 1)), none] [] m := (y_R_eq (md := z_md_239) rfl rfl).trans rfl
set_option maxRecDepth 4000 in
theorem y_E_239_148 (d : Nat) (x6 : Int) (m : y_m) : y_R sp ph d 239 148 [none, none, none, none, none, none, some (y_bl x6), none, none, none] [] m = y_rL x6 m := (y_R_eq (md := z_md_239) rfl rfl).trans rfl
set_option maxRecDepth 4000 in
theorem y_C_239 (d : Nat) (a0 : Nat) (x1 : Int) (x2 : Int) (x3 : Int) (x4 : Int) (x5 : Int) (m : y_m) : y_V sp ph (d + 1) 239 [y_bo 11 0 a0, y_bi x1, y_bi x2, y_bi x3, y_bi x4, y_bi x5] m = y_R sp ph d 239 0 [some (y_bo 11 0 a0), some (y_bi x1), some (y_bi x2), some (y_bi x3), some (y_bi x4), some (y_bi x5), none, none, none, none] [] m := (y_V_eq (md := z_md_239) rfl rfl rfl).trans rfl
/-! LacedHolesModel.waysBy (I)J -/
set_option maxRecDepth 4000 in
theorem y_E_240_0 (d : Nat) (a0 : Nat) (x1 : Int) (m : y_m) : y_R sp ph d 240 0 [some (y_bo 11 0 a0), some (y_bi x1), none] [] m = y_g (0 ≤ x1 ∧ x1 < (12 : Int)) (y_bI (y_V sp ph d 211 [y_bo 11 0 a0, y_bi (y_mI m 94 0), y_bi (y_mI m 94 x1.toNat)] m) (fun v1 m1 => y_bI (y_V sp ph d 236 [y_bo 11 0 a0, y_bi (z_ishl 1 (x1 - 1)), y_bi x1, y_bi v1, y_bi v1] m1) (fun v2 m2 => y_g (0 ≤ v2 ∧ v2 < (98304 : Int)) (y_rL (y_mJ m2 95 v2.toNat) m2)) (fun e m1 => y_px e m1)) (fun e m1 => y_px e m1)) := by
  rw [y_R_eq (md := z_md_240) rfl rfl]
  exact (y_gc (y_bIc fun v1 m1 => (y_sh (L' := [some (y_bo 11 0 a0), some (y_bi x1), none]) (S' := [y_bi v1]) rfl rfl (y_bIc fun v2 m2 => (y_sh (L' := [some (y_bo 11 0 a0), some (y_bi x1), some (y_bi v1)]) (S' := [y_bi v2, y_bo 101 98304 95]) rfl rfl rfl)))))
set_option maxRecDepth 4000 in
theorem y_C_240 (d : Nat) (a0 : Nat) (x1 : Int) (m : y_m) : y_V sp ph (d + 1) 240 [y_bo 11 0 a0, y_bi x1] m = y_R sp ph d 240 0 [some (y_bo 11 0 a0), some (y_bi x1), none] [] m := (y_V_eq (md := z_md_240) rfl rfl rfl).trans rfl
/-! LacedHolesModel.areHoles (I)Z -/
set_option maxRecDepth 4000 in
theorem y_E_241_0 (d : Nat) (a0 : Nat) (x1 : Int) (m : y_m) : y_R sp ph d 241 0 [some (y_bo 11 0 a0), some (y_bi x1)] [] m = y_bI (y_V sp ph d 199 [y_bo 11 0 a0] m) (fun v1 m1 => y_bI (y_V sp ph d 180 [y_bi x1, y_bi 0, y_bi ((z_ishl 1 v1) - 1)] m1) (fun v2 m2 => if z_w v2 = 0 then y_R sp ph d 241 40 [none, none] [] m2 else if ¬ z_w (z_iand x1 (y_mI m2 52 6)) = 0 then y_R sp ph d 241 40 [none, none] [] m2 else y_bI (y_V sp ph d 201 [y_bi x1] m2) (fun v3 m3 => if z_w v3 ≤ 2 then y_R sp ph d 241 40 [none, none] [] m3 else y_R sp ph d 241 41 [none, none] [y_bi 1] m3) (fun e m1 => y_px e m1)) (fun e m1 => y_px e m1)) (fun e m1 => y_px e m1) := by
  rw [y_R_eq (md := z_md_241) rfl rfl]
  exact (y_bIc fun v1 m1 => (y_sh (L' := [some (y_bo 11 0 a0), some (y_bi x1)]) (S' := [y_bi v1, y_bi 1, y_bi 0, y_bi x1]) rfl rfl (y_bIc fun v2 m2 => (y_sh (L' := [some (y_bo 11 0 a0), some (y_bi x1)]) (S' := [y_bi v2]) rfl rfl (y_ic rfl (y_ic rfl (y_bIc fun v3 m3 => (y_sh (L' := [some (y_bo 11 0 a0), some (y_bi x1)]) (S' := [y_bi v3]) rfl rfl rfl))))))))
set_option maxRecDepth 4000 in
theorem y_E_241_40 (d : Nat) (m : y_m) : y_R sp ph d 241 40 [none, none] [] m = y_R sp ph d 241 41 [none, none] [y_bi 0] m := (y_R_eq (md := z_md_241) rfl rfl).trans rfl
set_option maxRecDepth 4000 in
theorem y_E_241_41 (d : Nat) (xs0 : Int) (m : y_m) : y_R sp ph d 241 41 [none, none] [y_bi xs0] m = y_g (xs0 = 0 ∨ xs0 = 1) (y_rI xs0 m) := (y_R_eq (md := z_md_241) rfl rfl).trans rfl
set_option maxRecDepth 4000 in
theorem y_C_241 (d : Nat) (a0 : Nat) (x1 : Int) (m : y_m) : y_V sp ph (d + 1) 241 [y_bo 11 0 a0, y_bi x1] m = y_R sp ph d 241 0 [some (y_bo 11 0 a0), some (y_bi x1)] [] m := (y_V_eq (md := z_md_241) rfl rfl rfl).trans rfl
/-! LacedHolesModel.countOf (I)J -/
set_option maxRecDepth 4000 in
theorem y_E_242_0 (d : Nat) (a0 : Nat) (x1 : Int) (m : y_m) : y_R sp ph d 242 0 [some (y_bo 11 0 a0), some (y_bi x1), none, none, none] [] m = y_bV (y_V sp ph d 235 [y_bo 11 0 a0, y_bi x1] m) (fun m1 => y_R sp ph d 242 10 [some (y_bo 11 0 a0), none, some (y_bl 0), none, some (y_bi 1)] [] m1) (fun e m1 => y_px e m1) := by
  rw [y_R_eq (md := z_md_242) rfl rfl]
  exact (y_bVc fun m1 => (y_sh (L' := [some (y_bo 11 0 a0), some (y_bi x1), none, none, none]) (S' := []) rfl rfl rfl))
set_option maxRecDepth 4000 in
theorem y_E_242_10 (d : Nat) (a0 : Nat) (x2 : Int) (x4 : Int) (m : y_m) : y_R sp ph d 242 10 [some (y_bo 11 0 a0), none, some (y_bl x2), none, some (y_bi x4)] [] m = if z_w (y_mI m a0 33) ≤ z_w x4 then y_R sp ph d 242 40 [none, none, some (y_bl x2), none, none] [] m else y_bV (y_V sp ph d 238 [y_bo 11 0 a0, y_bi x4] m) (fun m1 => y_bL (y_V sp ph d 240 [y_bo 11 0 a0, y_bi x4] m1) (fun v2 m2 => y_R sp ph d 242 10 [some (y_bo 11 0 a0), none, some (y_bl (x2 + v2)), none, some (y_bi (x4 + 1))] [] m2) (fun e m1 => y_px e m1)) (fun e m1 => y_px e m1) := by
  rw [y_R_eq (md := z_md_242) rfl rfl]
  exact (y_ic rfl (y_bVc fun m1 => (y_sh (L' := [some (y_bo 11 0 a0), none, some (y_bl x2), none, some (y_bi x4)]) (S' := []) rfl rfl (y_bLc fun v2 m2 => (y_sh (L' := [some (y_bo 11 0 a0), none, some (y_bl x2), none, some (y_bi x4)]) (S' := [y_bl v2, y_bl x2]) rfl rfl rfl)))))
set_option maxRecDepth 4000 in
theorem y_E_242_40 (d : Nat) (x2 : Int) (m : y_m) : y_R sp ph d 242 40 [none, none, some (y_bl x2), none, none] [] m = y_rL x2 m := (y_R_eq (md := z_md_242) rfl rfl).trans rfl
set_option maxRecDepth 4000 in
theorem y_C_242 (d : Nat) (a0 : Nat) (x1 : Int) (m : y_m) : y_V sp ph (d + 1) 242 [y_bo 11 0 a0, y_bi x1] m = y_R sp ph d 242 0 [some (y_bo 11 0 a0), some (y_bi x1), none, none, none] [] m := (y_V_eq (md := z_md_242) rfl rfl rfl).trans rfl
/-! LacedHolesModel.count (I)J -/
set_option maxRecDepth 4000 in
theorem y_E_243_0 (d : Nat) (a0 : Nat) (x1 : Int) (m : y_m) : y_R sp ph d 243 0 [some (y_bo 11 0 a0), some (y_bi x1)] [] m = y_bI (y_V sp ph d 241 [y_bo 11 0 a0, y_bi x1] (y_sI m a0 0 0)) (fun v1 m1 => if ¬ z_w v1 = 0 then y_R sp ph d 243 18 [some (y_bo 11 0 a0), some (y_bi x1)] [y_bo 11 0 a0] m1 else y_R sp ph d 243 19 [some (y_bo 11 0 a0), some (y_bi x1)] [y_bi 1, y_bo 11 0 a0] m1) (fun e m1 => y_px e m1) := by
  rw [y_R_eq (md := z_md_243) rfl rfl]
  exact (y_bIc fun v1 m1 => (y_sh (L' := [some (y_bo 11 0 a0), some (y_bi x1)]) (S' := [y_bi v1, y_bo 11 0 a0]) rfl rfl rfl))
set_option maxRecDepth 4000 in
theorem y_E_243_18 (d : Nat) (a0 : Nat) (x1 : Int) (as0 : Nat) (m : y_m) : y_R sp ph d 243 18 [some (y_bo 11 0 a0), some (y_bi x1)] [y_bo 11 0 as0] m = y_R sp ph d 243 19 [some (y_bo 11 0 a0), some (y_bi x1)] [y_bi 0, y_bo 11 0 as0] m := (y_R_eq (md := z_md_243) rfl rfl).trans rfl
set_option maxRecDepth 4000 in
theorem y_E_243_19 (d : Nat) (a0 : Nat) (x1 : Int) (xs0 : Int) (as1 : Nat) (m : y_m) : y_R sp ph d 243 19 [some (y_bo 11 0 a0), some (y_bi x1)] [y_bi xs0, y_bo 11 0 as1] m = y_bI (y_V sp ph d 179 [y_bo 11 0 as1, y_bi xs0, y_bi 1] m) (fun v1 m1 => if z_w v1 = 0 then y_R sp ph d 243 28 [some (y_bo 11 0 a0), some (y_bi x1)] [] m1 else y_rL 0 m1) (fun e m1 => y_px e m1) := by
  rw [y_R_eq (md := z_md_243) rfl rfl]
  exact (y_bIc fun v1 m1 => (y_sh (L' := [some (y_bo 11 0 a0), some (y_bi x1)]) (S' := [y_bi v1]) rfl rfl rfl))
set_option maxRecDepth 4000 in
theorem y_E_243_28 (d : Nat) (a0 : Nat) (x1 : Int) (m : y_m) : y_R sp ph d 243 28 [some (y_bo 11 0 a0), some (y_bi x1)] [] m = y_bL (y_V sp ph d 242 [y_bo 11 0 a0, y_bi x1] m) (fun v1 m1 => y_rL v1 m1) (fun e m1 => y_px e m1) := by
  rw [y_R_eq (md := z_md_243) rfl rfl]
  exact (y_bLc fun v1 m1 => (y_sh (L' := [some (y_bo 11 0 a0), some (y_bi x1)]) (S' := [y_bl v1]) rfl rfl rfl))
set_option maxRecDepth 4000 in
theorem y_C_243 (d : Nat) (a0 : Nat) (x1 : Int) (m : y_m) : y_V sp ph (d + 1) 243 [y_bo 11 0 a0, y_bi x1] m = y_R sp ph d 243 0 [some (y_bo 11 0 a0), some (y_bi x1)] [] m := (y_V_eq (md := z_md_243) rfl rfl rfl).trans rfl
/-! LacedHolesModel.finds (IJ)Z -/
set_option maxRecDepth 4000 in
theorem y_E_244_0 (d : Nat) (a0 : Nat) (x1 : Int) (x2 : Int) (m : y_m) : y_R sp ph d 244 0 [some (y_bo 11 0 a0), some (y_bi x1), some (y_bl x2), none, none, none, none, none, none, none, none, none, none, none, none, none] [] m = y_bV (y_V sp ph d 235 [y_bo 11 0 a0, y_bi x1] m) (fun m1 => if 0 ≤ z_w (z_lcmp x2 0) then y_R sp ph d 244 19 [some (y_bo 11 0 a0), none, none, none, some (y_bl x2), none, some (y_bi 1), none, none, none, none, none, none, none, none, none] [] m1 else y_rI 0 m1) (fun e m1 => y_px e m1) := by
  rw [y_R_eq (md := z_md_244) rfl rfl]
  exact (y_bVc fun m1 => (y_sh (L' := [some (y_bo 11 0 a0), some (y_bi x1), some (y_bl x2), none, none, none, none, none, none, none, none, none, none, none, none, none]) (S' := []) rfl rfl rfl))
set_option maxRecDepth 4000 in
theorem y_E_244_19 (d : Nat) (a0 : Nat) (x4 : Int) (x6 : Int) (m : y_m) : y_R sp ph d 244 19 [some (y_bo 11 0 a0), none, none, none, some (y_bl x4), none, some (y_bi x6), none, none, none, none, none, none, none, none, none] [] m = if z_w (y_mI m a0 33) ≤ z_w x6 then y_R sp ph d 244 66 [some (y_bo 11 0 a0), none, none, none, some (y_bl x4), none, some (y_bi x6), none, none, none, none, none, none, none, none, none] [] m else y_bV (y_V sp ph d 238 [y_bo 11 0 a0, y_bi x6] m) (fun m1 => y_bL (y_V sp ph d 240 [y_bo 11 0 a0, y_bi x6] m1) (fun v2 m2 => if 0 ≤ z_w (z_lcmp x4 v2) then y_R sp ph d 244 49 [some (y_bo 11 0 a0), none, none, none, some (y_bl x4), none, some (y_bi x6), none, none, none, none, none, none, none, none, none] [] m2 else y_R sp ph d 244 66 [some (y_bo 11 0 a0), none, none, none, some (y_bl x4), none, some (y_bi x6), none, none, none, none, none, none, none, none, none] [] m2) (fun e m1 => y_px e m1)) (fun e m1 => y_px e m1) := by
  rw [y_R_eq (md := z_md_244) rfl rfl]
  exact (y_ic rfl (y_bVc fun m1 => (y_sh (L' := [some (y_bo 11 0 a0), none, none, none, some (y_bl x4), none, some (y_bi x6), none, none, none, none, none, none, none, none, none]) (S' := []) rfl rfl (y_bLc fun v2 m2 => (y_sh (L' := [some (y_bo 11 0 a0), none, none, none, some (y_bl x4), none, some (y_bi x6), none, none, none, none, none, none, none, none, none]) (S' := [y_bl v2, y_bl x4]) rfl rfl rfl)))))
set_option maxRecDepth 4000 in
theorem y_E_244_49 (d : Nat) (a0 : Nat) (x4 : Int) (x6 : Int) (m : y_m) : y_R sp ph d 244 49 [some (y_bo 11 0 a0), none, none, none, some (y_bl x4), none, some (y_bi x6), none, none, none, none, none, none, none, none, none] [] m = y_bL (y_V sp ph d 240 [y_bo 11 0 a0, y_bi x6] m) (fun v1 m1 => y_R sp ph d 244 19 [some (y_bo 11 0 a0), none, none, none, some (y_bl (x4 - v1)), none, some (y_bi (x6 + 1)), none, none, none, none, none, none, none, none, none] [] m1) (fun e m1 => y_px e m1) := by
  rw [y_R_eq (md := z_md_244) rfl rfl]
  exact (y_bLc fun v1 m1 => (y_sh (L' := [some (y_bo 11 0 a0), none, none, none, some (y_bl x4), none, some (y_bi x6), none, none, none, none, none, none, none, none, none]) (S' := [y_bl v1, y_bl x4]) rfl rfl rfl))
set_option maxRecDepth 4000 in
theorem y_E_244_66 (d : Nat) (a0 : Nat) (x4 : Int) (x6 : Int) (m : y_m) : y_R sp ph d 244 66 [some (y_bo 11 0 a0), none, none, none, some (y_bl x4), none, some (y_bi x6), none, none, none, none, none, none, none, none, none] [] m = if z_w x6 < z_w (y_mI m a0 33) then y_R sp ph d 244 77 [some (y_bo 11 0 a0), none, none, none, some (y_bl x4), none, some (y_bi x6), none, none, none, none, none, none, none, none, none] [] m else y_rI 0 m := (y_R_eq (md := z_md_244) rfl rfl).trans rfl
set_option maxRecDepth 4000 in
theorem y_E_244_77 (d : Nat) (a0 : Nat) (x4 : Int) (x6 : Int) (m : y_m) : y_R sp ph d 244 77 [some (y_bo 11 0 a0), none, none, none, some (y_bl x4), none, some (y_bi x6), none, none, none, none, none, none, none, none, none] [] m = y_g (0 ≤ x6 ∧ x6 < (12 : Int)) (y_bI (y_V sp ph d 211 [y_bo 11 0 a0, y_bi (y_mI m 94 0), y_bi (y_mI m 94 x6.toNat)] m) (fun v1 m1 => y_g (0 ≤ x6 ∧ x6 < (12 : Int)) (y_R sp ph d 244 140 [some (y_bo 11 0 a0), none, none, none, some (y_bl x4), none, none, some (y_bi (z_ishl 1 (x6 - 1))), some (y_bi x6), some (y_bi v1), some (y_bi v1), some (y_bi 2), none, none, none, none] [] (y_sI (y_sI m1 97 0 (y_mI m1 94 0)) 97 1 (y_mI (y_sI m1 97 0 (y_mI m1 94 0)) 94 x6.toNat)))) (fun e m1 => y_px e m1)) := by
  rw [y_R_eq (md := z_md_244) rfl rfl]
  exact (y_gc (y_bIc fun v1 m1 => (y_sh (L' := [some (y_bo 11 0 a0), none, none, none, some (y_bl x4), none, some (y_bi x6), some (y_bi (z_ishl 1 (x6 - 1))), some (y_bi x6), none, none, none, none, none, none, none]) (S' := [y_bi v1]) rfl rfl rfl)))
set_option maxRecDepth 4000 in
theorem y_E_244_140 (d : Nat) (a0 : Nat) (x4 : Int) (x7 : Int) (x8 : Int) (x9 : Int) (x10 : Int) (x11 : Int) (m : y_m) : y_R sp ph d 244 140 [some (y_bo 11 0 a0), none, none, none, some (y_bl x4), none, none, some (y_bi x7), some (y_bi x8), some (y_bi x9), some (y_bi x10), some (y_bi x11), none, none, none, none] [] m = if z_w (y_mI m a0 33) ≤ z_w x11 then y_R sp ph d 244 300 [none, none, none, none, none, none, none, none, none, none, none, none, none, none, none, none] [] m else y_R sp ph d 244 152 [some (y_bo 11 0 a0), none, none, none, some (y_bl x4), none, none, some (y_bi x7), some (y_bi x8), some (y_bi x9), some (y_bi x10), some (y_bi x11), some (y_bi 1), none, none, none] [] m := (y_R_eq (md := z_md_244) rfl rfl).trans rfl
set_option maxRecDepth 4000 in
theorem y_E_244_152 (d : Nat) (a0 : Nat) (x4 : Int) (x7 : Int) (x8 : Int) (x9 : Int) (x10 : Int) (x11 : Int) (x12 : Int) (m : y_m) : y_R sp ph d 244 152 [some (y_bo 11 0 a0), none, none, none, some (y_bl x4), none, none, some (y_bi x7), some (y_bi x8), some (y_bi x9), some (y_bi x10), some (y_bi x11), some (y_bi x12), none, none, none] [] m = if z_w (y_mI m a0 33) ≤ z_w x12 then y_R sp ph d 244 294 [some (y_bo 11 0 a0), none, none, none, some (y_bl x4), none, none, some (y_bi x7), some (y_bi x8), some (y_bi x9), some (y_bi x10), some (y_bi x11), none, none, none, none] [] m else y_g (0 ≤ x8 ∧ x8 < (12 : Int)) (y_g (0 ≤ x12 ∧ x12 < (12 : Int)) (y_bI (y_V sp ph d 211 [y_bo 11 0 a0, y_bi (y_mI m 94 x8.toNat), y_bi (y_mI m 94 x12.toNat)] m) (fun v1 m1 => if z_w (z_iand (z_ishr x7 (x12 - 1)) 1) = 1 then y_R sp ph d 244 288 [some (y_bo 11 0 a0), none, none, none, some (y_bl x4), none, none, some (y_bi x7), some (y_bi x8), some (y_bi x9), some (y_bi x10), some (y_bi x11), some (y_bi x12), none, none, none] [] m1 else y_bI (y_V sp ph d 227 [y_bo 11 0 a0, y_bi x9, y_bi v1] m1) (fun v2 m2 => if ¬ z_w v2 = 0 then y_R sp ph d 244 208 [some (y_bo 11 0 a0), none, none, none, some (y_bl x4), none, none, some (y_bi x7), some (y_bi x8), some (y_bi x9), some (y_bi x10), some (y_bi x11), some (y_bi x12), some (y_bi v1), none, none] [] m2 else y_R sp ph d 244 288 [some (y_bo 11 0 a0), none, none, none, some (y_bl x4), none, none, some (y_bi x7), some (y_bi x8), some (y_bi x9), some (y_bi x10), some (y_bi x11), some (y_bi x12), none, none, none] [] m2) (fun e m1 => y_px e m1)) (fun e m1 => y_px e m1))) := by
  rw [y_R_eq (md := z_md_244) rfl rfl]
  exact (y_ic rfl (y_gc (y_gc (y_bIc fun v1 m1 => (y_sh (L' := [some (y_bo 11 0 a0), none, none, none, some (y_bl x4), none, none, some (y_bi x7), some (y_bi x8), some (y_bi x9), some (y_bi x10), some (y_bi x11), some (y_bi x12), none, none, none]) (S' := [y_bi v1]) rfl rfl (y_ic rfl (y_bIc fun v2 m2 => (y_sh (L' := [some (y_bo 11 0 a0), none, none, none, some (y_bl x4), none, none, some (y_bi x7), some (y_bi x8), some (y_bi x9), some (y_bi x10), some (y_bi x11), some (y_bi x12), some (y_bi v1), none, none]) (S' := [y_bi v2]) rfl rfl rfl))))))))
set_option maxRecDepth 4000 in
theorem y_E_244_208 (d : Nat) (a0 : Nat) (x4 : Int) (x7 : Int) (x8 : Int) (x9 : Int) (x10 : Int) (x11 : Int) (x12 : Int) (x13 : Int) (m : y_m) : y_R sp ph d 244 208 [some (y_bo 11 0 a0), none, none, none, some (y_bl x4), none, none, some (y_bi x7), some (y_bi x8), some (y_bi x9), some (y_bi x10), some (y_bi x11), some (y_bi x12), some (y_bi x13), none, none] [] m = y_bI (y_V sp ph d 236 [y_bo 11 0 a0, y_bi (z_ior x7 (z_ishl 1 (x12 - 1))), y_bi x12, y_bi x13, y_bi x10] m) (fun v1 m1 => y_g (0 ≤ v1 ∧ v1 < (98304 : Int)) (if z_w (z_lcmp x4 (y_mJ m1 95 v1.toNat)) < 0 then y_R sp ph d 244 252 [some (y_bo 11 0 a0), none, none, none, some (y_bl x4), none, none, some (y_bi x7), none, none, some (y_bi x10), some (y_bi x11), some (y_bi x12), some (y_bi x13), none, none] [] m1 else y_R sp ph d 244 288 [some (y_bo 11 0 a0), none, none, none, some (y_bl (x4 - (y_mJ m1 95 v1.toNat))), none, none, some (y_bi x7), some (y_bi x8), some (y_bi x9), some (y_bi x10), some (y_bi x11), some (y_bi x12), none, none, none] [] m1)) (fun e m1 => y_px e m1) := by
  rw [y_R_eq (md := z_md_244) rfl rfl]
  exact (y_bIc fun v1 m1 => (y_sh (L' := [some (y_bo 11 0 a0), none, none, none, some (y_bl x4), none, none, some (y_bi x7), some (y_bi x8), some (y_bi x9), some (y_bi x10), some (y_bi x11), some (y_bi x12), some (y_bi x13), none, none]) (S' := [y_bi v1, y_bo 101 98304 95]) rfl rfl rfl))
set_option maxRecDepth 4000 in
theorem y_E_244_252 (d : Nat) (a0 : Nat) (x4 : Int) (x7 : Int) (x10 : Int) (x11 : Int) (x12 : Int) (x13 : Int) (m : y_m) : y_R sp ph d 244 252 [some (y_bo 11 0 a0), none, none, none, some (y_bl x4), none, none, some (y_bi x7), none, none, some (y_bi x10), some (y_bi x11), some (y_bi x12), some (y_bi x13), none, none] [] m = y_g (0 ≤ x12 ∧ x12 < (12 : Int)) (y_g (0 ≤ x11 ∧ x11 < (12 : Int)) (y_R sp ph d 244 294 [some (y_bo 11 0 a0), none, none, none, some (y_bl x4), none, none, some (y_bi (z_ior x7 (z_ishl 1 (x12 - 1)))), some (y_bi x12), some (y_bi x13), some (y_bi x10), some (y_bi x11), none, none, none, none] [] (y_sI m 97 x11.toNat (y_mI m 94 x12.toNat)))) := (y_R_eq (md := z_md_244) rfl rfl).trans rfl
set_option maxRecDepth 4000 in
theorem y_E_244_288 (d : Nat) (a0 : Nat) (x4 : Int) (x7 : Int) (x8 : Int) (x9 : Int) (x10 : Int) (x11 : Int) (x12 : Int) (m : y_m) : y_R sp ph d 244 288 [some (y_bo 11 0 a0), none, none, none, some (y_bl x4), none, none, some (y_bi x7), some (y_bi x8), some (y_bi x9), some (y_bi x10), some (y_bi x11), some (y_bi x12), none, none, none] [] m = y_R sp ph d 244 152 [some (y_bo 11 0 a0), none, none, none, some (y_bl x4), none, none, some (y_bi x7), some (y_bi x8), some (y_bi x9), some (y_bi x10), some (y_bi x11), some (y_bi (x12 + 1)), none, none, none] [] m := (y_R_eq (md := z_md_244) rfl rfl).trans rfl
set_option maxRecDepth 4000 in
theorem y_E_244_294 (d : Nat) (a0 : Nat) (x4 : Int) (x7 : Int) (x8 : Int) (x9 : Int) (x10 : Int) (x11 : Int) (m : y_m) : y_R sp ph d 244 294 [some (y_bo 11 0 a0), none, none, none, some (y_bl x4), none, none, some (y_bi x7), some (y_bi x8), some (y_bi x9), some (y_bi x10), some (y_bi x11), none, none, none, none] [] m = y_R sp ph d 244 140 [some (y_bo 11 0 a0), none, none, none, some (y_bl x4), none, none, some (y_bi x7), some (y_bi x8), some (y_bi x9), some (y_bi x10), some (y_bi (x11 + 1)), none, none, none, none] [] m := (y_R_eq (md := z_md_244) rfl rfl).trans rfl
set_option maxRecDepth 4000 in
theorem y_E_244_300 (d : Nat) (m : y_m) : y_R sp ph d 244 300 [none, none, none, none, none, none, none, none, none, none, none, none, none, none, none, none] [] m = y_rI 1 m := (y_R_eq (md := z_md_244) rfl rfl).trans rfl
set_option maxRecDepth 4000 in
theorem y_C_244 (d : Nat) (a0 : Nat) (x1 : Int) (x2 : Int) (m : y_m) : y_V sp ph (d + 1) 244 [y_bo 11 0 a0, y_bi x1, y_bl x2] m = y_R sp ph d 244 0 [some (y_bo 11 0 a0), some (y_bi x1), some (y_bl x2), none, none, none, none, none, none, none, none, none, none, none, none, none] [] m := (y_V_eq (md := z_md_244) rfl rfl rfl).trans rfl
/-! LacedHolesModel.take (IJ)I -/
set_option maxRecDepth 4000 in
theorem y_E_245_0 (d : Nat) (a0 : Nat) (x1 : Int) (x2 : Int) (m : y_m) : y_R sp ph d 245 0 [some (y_bo 11 0 a0), some (y_bi x1), some (y_bl x2), none] [] m = y_bI (y_V sp ph d 241 [y_bo 11 0 a0, y_bi x1] (y_sI m a0 0 0)) (fun v1 m1 => if ¬ z_w v1 = 0 then y_R sp ph d 245 18 [some (y_bo 11 0 a0), some (y_bi x1), some (y_bl x2), none] [y_bo 11 0 a0] m1 else y_R sp ph d 245 19 [some (y_bo 11 0 a0), some (y_bi x1), some (y_bl x2), none] [y_bi 1, y_bo 11 0 a0] m1) (fun e m1 => y_px e m1) := by
  rw [y_R_eq (md := z_md_245) rfl rfl]
  exact (y_bIc fun v1 m1 => (y_sh (L' := [some (y_bo 11 0 a0), some (y_bi x1), some (y_bl x2), none]) (S' := [y_bi v1, y_bo 11 0 a0]) rfl rfl rfl))
set_option maxRecDepth 4000 in
theorem y_E_245_18 (d : Nat) (a0 : Nat) (x1 : Int) (x2 : Int) (as0 : Nat) (m : y_m) : y_R sp ph d 245 18 [some (y_bo 11 0 a0), some (y_bi x1), some (y_bl x2), none] [y_bo 11 0 as0] m = y_R sp ph d 245 19 [some (y_bo 11 0 a0), some (y_bi x1), some (y_bl x2), none] [y_bi 0, y_bo 11 0 as0] m := (y_R_eq (md := z_md_245) rfl rfl).trans rfl
set_option maxRecDepth 4000 in
theorem y_E_245_19 (d : Nat) (a0 : Nat) (x1 : Int) (x2 : Int) (xs0 : Int) (as1 : Nat) (m : y_m) : y_R sp ph d 245 19 [some (y_bo 11 0 a0), some (y_bi x1), some (y_bl x2), none] [y_bi xs0, y_bo 11 0 as1] m = y_bI (y_V sp ph d 179 [y_bo 11 0 as1, y_bi xs0, y_bi 1] m) (fun v1 m1 => if z_w v1 = 0 then y_R sp ph d 245 28 [some (y_bo 11 0 a0), some (y_bi x1), some (y_bl x2), none] [] m1 else y_rI 0 m1) (fun e m1 => y_px e m1) := by
  rw [y_R_eq (md := z_md_245) rfl rfl]
  exact (y_bIc fun v1 m1 => (y_sh (L' := [some (y_bo 11 0 a0), some (y_bi x1), some (y_bl x2), none]) (S' := [y_bi v1]) rfl rfl rfl))
set_option maxRecDepth 4000 in
theorem y_E_245_28 (d : Nat) (a0 : Nat) (x1 : Int) (x2 : Int) (m : y_m) : y_R sp ph d 245 28 [some (y_bo 11 0 a0), some (y_bi x1), some (y_bl x2), none] [] m = y_bI (y_V sp ph d 244 [y_bo 11 0 a0, y_bi x1, y_bl x2] m) (fun v1 m1 => if ¬ z_w v1 = 0 then y_R sp ph d 245 39 [some (y_bo 11 0 a0), none, none, none] [] m1 else y_rI (-1) m1) (fun e m1 => y_px e m1) := by
  rw [y_R_eq (md := z_md_245) rfl rfl]
  exact (y_bIc fun v1 m1 => (y_sh (L' := [some (y_bo 11 0 a0), some (y_bi x1), some (y_bl x2), none]) (S' := [y_bi v1]) rfl rfl rfl))
set_option maxRecDepth 4000 in
theorem y_E_245_39 (d : Nat) (a0 : Nat) (m : y_m) : y_R sp ph d 245 39 [some (y_bo 11 0 a0), none, none, none] [] m = y_bV (y_V sp ph d 196 [y_bo 11 0 a0, y_bo 100 12 97, y_bi (y_mI m a0 33)] m) (fun m1 => y_rI (y_mI m1 a0 33) m1) (fun e m1 => y_px e m1) := by
  rw [y_R_eq (md := z_md_245) rfl rfl]
  exact (y_bVc fun m1 => (y_sh (L' := [some (y_bo 11 0 a0), none, none, none]) (S' := []) rfl rfl rfl))
set_option maxRecDepth 4000 in
theorem y_C_245 (d : Nat) (a0 : Nat) (x1 : Int) (x2 : Int) (m : y_m) : y_V sp ph (d + 1) 245 [y_bo 11 0 a0, y_bi x1, y_bl x2] m = y_R sp ph d 245 0 [some (y_bo 11 0 a0), some (y_bi x1), some (y_bl x2), none] [] m := (y_V_eq (md := z_md_245) rfl rfl rfl).trans rfl
/-! LacedHolesModel.wayBits ()I -/
set_option maxRecDepth 4000 in
theorem y_E_246_0 (d : Nat) (a0 : Nat) (m : y_m) : y_R sp ph d 246 0 [some (y_bo 11 0 a0), none, none] [] m = y_R sp ph d 246 4 [some (y_bo 11 0 a0), some (y_bi 0), some (y_bi 0)] [] m := (y_R_eq (md := z_md_246) rfl rfl).trans rfl
set_option maxRecDepth 4000 in
theorem y_E_246_4 (d : Nat) (a0 : Nat) (x1 : Int) (x2 : Int) (m : y_m) : y_R sp ph d 246 4 [some (y_bo 11 0 a0), some (y_bi x1), some (y_bi x2)] [] m = if z_w (y_mI m a0 13) ≤ z_w x2 then y_R sp ph d 246 29 [none, some (y_bi x1), none] [] m else y_g (0 ≤ x2 ∧ x2 < (12 : Int)) (y_R sp ph d 246 4 [some (y_bo 11 0 a0), some (y_bi (z_ior x1 (z_ishl 1 (y_mI m 54 x2.toNat)))), some (y_bi (x2 + 1))] [] m) := (y_R_eq (md := z_md_246) rfl rfl).trans rfl
set_option maxRecDepth 4000 in
theorem y_E_246_29 (d : Nat) (x1 : Int) (m : y_m) : y_R sp ph d 246 29 [none, some (y_bi x1), none] [] m = y_rI x1 m := (y_R_eq (md := z_md_246) rfl rfl).trans rfl
set_option maxRecDepth 4000 in
theorem y_C_246 (d : Nat) (a0 : Nat) (m : y_m) : y_V sp ph (d + 1) 246 [y_bo 11 0 a0] m = y_R sp ph d 246 0 [some (y_bo 11 0 a0), none, none] [] m := (y_V_eq (md := z_md_246) rfl rfl rfl).trans rfl
/-! LacedHolesModel.laysOwn ([II)V -/
set_option maxRecDepth 4000 in
theorem y_E_247_0 (d : Nat) (a0 : Nat) (a1 : Nat) (n1 : Nat) (x2 : Int) (m : y_m) : y_R sp ph d 247 0 [some (y_bo 11 0 a0), some (y_bo 100 n1 a1), some (y_bi x2), none, none, none] [] m = y_R sp ph d 247 5 [some (y_bo 11 0 a0), some (y_bo 100 n1 a1), some (y_bi x2), some (y_bi 0), some (y_bi 1), none] [] m := (y_R_eq (md := z_md_247) rfl rfl).trans rfl
set_option maxRecDepth 4000 in
theorem y_E_247_5 (d : Nat) (a0 : Nat) (a1 : Nat) (n1 : Nat) (x2 : Int) (x3 : Int) (x4 : Int) (m : y_m) : y_R sp ph d 247 5 [some (y_bo 11 0 a0), some (y_bo 100 n1 a1), some (y_bi x2), some (y_bi x3), some (y_bi x4), none] [] m = if z_w x2 ≤ z_w x4 then y_R sp ph d 247 34 [some (y_bo 11 0 a0), some (y_bo 100 n1 a1), some (y_bi x2), some (y_bi x3), none, none] [] m else y_g (0 ≤ x4 ∧ x4 < (n1 : Int)) (y_g (0 ≤ x3 ∧ x3 < (n1 : Int)) (if z_w (y_mI m a1 x3.toNat) ≤ z_w (y_mI m a1 x4.toNat) then y_R sp ph d 247 26 [some (y_bo 11 0 a0), some (y_bo 100 n1 a1), some (y_bi x2), some (y_bi x3), some (y_bi x4), none] [] m else y_R sp ph d 247 27 [some (y_bo 11 0 a0), some (y_bo 100 n1 a1), some (y_bi x2), none, some (y_bi x4), none] [y_bi x4] m)) := (y_R_eq (md := z_md_247) rfl rfl).trans rfl
set_option maxRecDepth 4000 in
theorem y_E_247_26 (d : Nat) (a0 : Nat) (a1 : Nat) (n1 : Nat) (x2 : Int) (x3 : Int) (x4 : Int) (m : y_m) : y_R sp ph d 247 26 [some (y_bo 11 0 a0), some (y_bo 100 n1 a1), some (y_bi x2), some (y_bi x3), some (y_bi x4), none] [] m = y_R sp ph d 247 27 [some (y_bo 11 0 a0), some (y_bo 100 n1 a1), some (y_bi x2), none, some (y_bi x4), none] [y_bi x3] m := (y_R_eq (md := z_md_247) rfl rfl).trans rfl
set_option maxRecDepth 4000 in
theorem y_E_247_27 (d : Nat) (a0 : Nat) (a1 : Nat) (n1 : Nat) (x2 : Int) (x4 : Int) (xs0 : Int) (m : y_m) : y_R sp ph d 247 27 [some (y_bo 11 0 a0), some (y_bo 100 n1 a1), some (y_bi x2), none, some (y_bi x4), none] [y_bi xs0] m = y_R sp ph d 247 5 [some (y_bo 11 0 a0), some (y_bo 100 n1 a1), some (y_bi x2), some (y_bi xs0), some (y_bi (x4 + 1)), none] [] m := (y_R_eq (md := z_md_247) rfl rfl).trans rfl
set_option maxRecDepth 4000 in
theorem y_E_247_34 (d : Nat) (a0 : Nat) (a1 : Nat) (n1 : Nat) (x2 : Int) (x3 : Int) (m : y_m) : y_R sp ph d 247 34 [some (y_bo 11 0 a0), some (y_bo 100 n1 a1), some (y_bi x2), some (y_bi x3), none, none] [] m = y_g (z_w x2 ≠ 0) (y_g (0 ≤ z_irem (x3 + 1) x2 ∧ z_irem (x3 + 1) x2 < (n1 : Int)) (y_g (z_w x2 ≠ 0) (y_g (0 ≤ z_irem ((x3 + x2) - 1) x2 ∧ z_irem ((x3 + x2) - 1) x2 < (n1 : Int)) (if z_w (y_mI m a1 (z_irem ((x3 + x2) - 1) x2).toNat) ≤ z_w (y_mI m a1 (z_irem (x3 + 1) x2).toNat) then y_R sp ph d 247 57 [some (y_bo 11 0 a0), some (y_bo 100 n1 a1), some (y_bi x2), some (y_bi x3), none, none] [] m else y_R sp ph d 247 58 [some (y_bo 11 0 a0), some (y_bo 100 n1 a1), some (y_bi x2), some (y_bi x3), none, none] [y_bi 1] m)))) := (y_R_eq (md := z_md_247) rfl rfl).trans rfl
set_option maxRecDepth 4000 in
theorem y_E_247_57 (d : Nat) (a0 : Nat) (a1 : Nat) (n1 : Nat) (x2 : Int) (x3 : Int) (m : y_m) : y_R sp ph d 247 57 [some (y_bo 11 0 a0), some (y_bo 100 n1 a1), some (y_bi x2), some (y_bi x3), none, none] [] m = y_R sp ph d 247 58 [some (y_bo 11 0 a0), some (y_bo 100 n1 a1), some (y_bi x2), some (y_bi x3), none, none] [y_bi 0] m := (y_R_eq (md := z_md_247) rfl rfl).trans rfl
set_option maxRecDepth 4000 in
theorem y_E_247_58 (d : Nat) (a0 : Nat) (a1 : Nat) (n1 : Nat) (x2 : Int) (x3 : Int) (xs0 : Int) (m : y_m) : y_R sp ph d 247 58 [some (y_bo 11 0 a0), some (y_bo 100 n1 a1), some (y_bi x2), some (y_bi x3), none, none] [y_bi xs0] m = y_R sp ph d 247 63 [some (y_bo 11 0 a0), some (y_bo 100 n1 a1), some (y_bi x2), some (y_bi x3), some (y_bi xs0), some (y_bi 0)] [] m := (y_R_eq (md := z_md_247) rfl rfl).trans rfl
set_option maxRecDepth 4000 in
theorem y_E_247_63 (d : Nat) (a0 : Nat) (a1 : Nat) (n1 : Nat) (x2 : Int) (x3 : Int) (x4 : Int) (x5 : Int) (m : y_m) : y_R sp ph d 247 63 [some (y_bo 11 0 a0), some (y_bo 100 n1 a1), some (y_bi x2), some (y_bi x3), some (y_bi x4), some (y_bi x5)] [] m = if z_w x2 ≤ z_w x5 then y_R sp ph d 247 102 [none, none, none, none, none, none] [] m else if z_w x4 = 0 then y_R sp ph d 247 87 [some (y_bo 11 0 a0), some (y_bo 100 n1 a1), some (y_bi x2), some (y_bi x3), some (y_bi x4), some (y_bi x5)] [y_bi x3, y_bo 100 n1 a1, y_bi x5, y_bo 100 12 98] m else y_R sp ph d 247 91 [some (y_bo 11 0 a0), some (y_bo 100 n1 a1), some (y_bi x2), some (y_bi x3), some (y_bi x4), some (y_bi x5)] [y_bi x5, y_bi x3, y_bo 100 n1 a1, y_bi x5, y_bo 100 12 98] m := (y_R_eq (md := z_md_247) rfl rfl).trans rfl
set_option maxRecDepth 4000 in
theorem y_E_247_87 (d : Nat) (a0 : Nat) (a1 : Nat) (n1 : Nat) (x2 : Int) (x3 : Int) (x4 : Int) (x5 : Int) (xs0 : Int) (as1 : Nat) (ns1 : Nat) (xs2 : Int) (as3 : Nat) (m : y_m) : y_R sp ph d 247 87 [some (y_bo 11 0 a0), some (y_bo 100 n1 a1), some (y_bi x2), some (y_bi x3), some (y_bi x4), some (y_bi x5)] [y_bi xs0, y_bo 100 ns1 as1, y_bi xs2, y_bo 100 12 as3] m = y_R sp ph d 247 91 [some (y_bo 11 0 a0), some (y_bo 100 n1 a1), some (y_bi x2), some (y_bi x3), some (y_bi x4), some (y_bi x5)] [y_bi (x2 - x5), y_bi xs0, y_bo 100 ns1 as1, y_bi xs2, y_bo 100 12 as3] m := (y_R_eq (md := z_md_247) rfl rfl).trans rfl
set_option maxRecDepth 4000 in
theorem y_E_247_91 (d : Nat) (a0 : Nat) (a1 : Nat) (n1 : Nat) (x2 : Int) (x3 : Int) (x4 : Int) (x5 : Int) (xs0 : Int) (xs1 : Int) (as2 : Nat) (ns2 : Nat) (xs3 : Int) (as4 : Nat) (m : y_m) : y_R sp ph d 247 91 [some (y_bo 11 0 a0), some (y_bo 100 n1 a1), some (y_bi x2), some (y_bi x3), some (y_bi x4), some (y_bi x5)] [y_bi xs0, y_bi xs1, y_bo 100 ns2 as2, y_bi xs3, y_bo 100 12 as4] m = y_g (z_w x2 ≠ 0) (y_g (0 ≤ z_irem (xs1 + xs0) x2 ∧ z_irem (xs1 + xs0) x2 < (ns2 : Int)) (y_g (0 ≤ xs3 ∧ xs3 < (12 : Int)) (y_R sp ph d 247 63 [some (y_bo 11 0 a0), some (y_bo 100 n1 a1), some (y_bi x2), some (y_bi x3), some (y_bi x4), some (y_bi (x5 + 1))] [] (y_sI m as4 xs3.toNat (y_mI m as2 (z_irem (xs1 + xs0) x2).toNat))))) := (y_R_eq (md := z_md_247) rfl rfl).trans rfl
set_option maxRecDepth 4000 in
theorem y_E_247_102 (d : Nat) (m : y_m) : y_R sp ph d 247 102 [none, none, none, none, none, none] [] m = y_rV m := (y_R_eq (md := z_md_247) rfl rfl).trans rfl
set_option maxRecDepth 4000 in
theorem y_C_247 (d : Nat) (a0 : Nat) (a1 : Nat) (n1 : Nat) (x2 : Int) (m : y_m) : y_V sp ph (d + 1) 247 [y_bo 11 0 a0, y_bo 100 n1 a1, y_bi x2] m = y_R sp ph d 247 0 [some (y_bo 11 0 a0), some (y_bo 100 n1 a1), some (y_bi x2), none, none, none] [] m := (y_V_eq (md := z_md_247) rfl rfl rfl).trans rfl
/-! LacedHolesModel.indexOf (I)I -/
set_option maxRecDepth 4000 in
theorem y_E_248_0 (d : Nat) (a0 : Nat) (x1 : Int) (m : y_m) : y_R sp ph d 248 0 [some (y_bo 11 0 a0), some (y_bi x1), none] [] m = y_R sp ph d 248 2 [some (y_bo 11 0 a0), some (y_bi x1), some (y_bi 0)] [] m := (y_R_eq (md := z_md_248) rfl rfl).trans rfl
set_option maxRecDepth 4000 in
theorem y_E_248_2 (d : Nat) (a0 : Nat) (x1 : Int) (x2 : Int) (m : y_m) : y_R sp ph d 248 2 [some (y_bo 11 0 a0), some (y_bi x1), some (y_bi x2)] [] m = y_g (0 ≤ x2 ∧ x2 < (12 : Int)) (if z_w (y_mI m 94 x2.toNat) = z_w x1 then y_R sp ph d 248 18 [none, none, some (y_bi x2)] [] m else y_R sp ph d 248 2 [some (y_bo 11 0 a0), some (y_bi x1), some (y_bi (x2 + 1))] [] m) := (y_R_eq (md := z_md_248) rfl rfl).trans rfl
set_option maxRecDepth 4000 in
theorem y_E_248_18 (d : Nat) (x2 : Int) (m : y_m) : y_R sp ph d 248 18 [none, none, some (y_bi x2)] [] m = y_rI x2 m := (y_R_eq (md := z_md_248) rfl rfl).trans rfl
set_option maxRecDepth 4000 in
theorem y_C_248 (d : Nat) (a0 : Nat) (x1 : Int) (m : y_m) : y_V sp ph (d + 1) 248 [y_bo 11 0 a0, y_bi x1] m = y_R sp ph d 248 0 [some (y_bo 11 0 a0), some (y_bi x1), none] [] m := (y_V_eq (md := z_md_248) rfl rfl rfl).trans rfl
/-! LacedHolesModel.number ()J -/
set_option maxRecDepth 4000 in
theorem y_E_249_0 (d : Nat) (a0 : Nat) (m : y_m) : y_R sp ph d 249 0 [some (y_bo 11 0 a0), none, none, none, none, none, none, none, none, none, none, none] [] m = y_bI (y_V sp ph d 230 [y_bo 11 0 a0] (y_sI m a0 0 0)) (fun v1 m1 => if z_w v1 = 0 then y_R sp ph d 249 14 [some (y_bo 11 0 a0), none, none, none, none, none, none, none, none, none, none, none] [] m1 else y_rL 0 m1) (fun e m1 => y_px e m1) := by
  rw [y_R_eq (md := z_md_249) rfl rfl]
  exact (y_bIc fun v1 m1 => (y_sh (L' := [some (y_bo 11 0 a0), none, none, none, none, none, none, none, none, none, none, none]) (S' := [y_bi v1]) rfl rfl rfl))
set_option maxRecDepth 4000 in
theorem y_E_249_14 (d : Nat) (a0 : Nat) (m : y_m) : y_R sp ph d 249 14 [some (y_bo 11 0 a0), none, none, none, none, none, none, none, none, none, none, none] [] m = y_bI (y_V sp ph d 229 [y_bo 11 0 a0] m) (fun v1 m1 => if z_w v1 = (-1) then y_R sp ph d 249 26 [some (y_bo 11 0 a0), none, none, none, none, none, none, none, none, none, none, none] [] m1 else y_rL (-1) m1) (fun e m1 => y_px e m1) := by
  rw [y_R_eq (md := z_md_249) rfl rfl]
  exact (y_bIc fun v1 m1 => (y_sh (L' := [some (y_bo 11 0 a0), none, none, none, none, none, none, none, none, none, none, none]) (S' := [y_bi v1]) rfl rfl rfl))
set_option maxRecDepth 4000 in
theorem y_E_249_26 (d : Nat) (a0 : Nat) (m : y_m) : y_R sp ph d 249 26 [some (y_bo 11 0 a0), none, none, none, none, none, none, none, none, none, none, none] [] m = y_bI (y_V sp ph d 246 [y_bo 11 0 a0] m) (fun v1 m1 => y_bV (y_V sp ph d 235 [y_bo 11 0 a0, y_bi v1] m1) (fun m2 => y_bV (y_V sp ph d 247 [y_bo 11 0 a0, y_bo 100 12 54, y_bi (y_mI m2 a0 13)] m2) (fun m3 => y_bI (y_V sp ph d 248 [y_bo 11 0 a0, y_bi (y_mI m3 98 1)] m3) (fun v4 m4 => y_R sp ph d 249 71 [some (y_bo 11 0 a0), some (y_bi v4), some (y_bi (z_ishl 1 (v4 - 1))), some (y_bi v4), some (y_bl 0), none, some (y_bi 1), none, none, none, none, none] [] m4) (fun e m1 => y_px e m1)) (fun e m1 => y_px e m1)) (fun e m1 => y_px e m1)) (fun e m1 => y_px e m1) := by
  rw [y_R_eq (md := z_md_249) rfl rfl]
  exact (y_bIc fun v1 m1 => (y_sh (L' := [some (y_bo 11 0 a0), none, none, none, none, none, none, none, none, none, none, none]) (S' := [y_bi v1, y_bo 11 0 a0]) rfl rfl (y_bVc fun m2 => (y_sh (L' := [some (y_bo 11 0 a0), none, none, none, none, none, none, none, none, none, none, none]) (S' := []) rfl rfl (y_bVc fun m3 => (y_sh (L' := [some (y_bo 11 0 a0), none, none, none, none, none, none, none, none, none, none, none]) (S' := []) rfl rfl (y_bIc fun v4 m4 => (y_sh (L' := [some (y_bo 11 0 a0), none, none, none, none, none, none, none, none, none, none, none]) (S' := [y_bi v4]) rfl rfl rfl))))))))
set_option maxRecDepth 4000 in
theorem y_E_249_71 (d : Nat) (a0 : Nat) (x1 : Int) (x2 : Int) (x3 : Int) (x4 : Int) (x6 : Int) (m : y_m) : y_R sp ph d 249 71 [some (y_bo 11 0 a0), some (y_bi x1), some (y_bi x2), some (y_bi x3), some (y_bl x4), none, some (y_bi x6), none, none, none, none, none] [] m = if z_w x1 ≤ z_w x6 then y_R sp ph d 249 100 [some (y_bo 11 0 a0), some (y_bi x1), some (y_bi x2), some (y_bi x3), some (y_bl x4), none, none, none, none, none, none, none] [] m else y_bV (y_V sp ph d 238 [y_bo 11 0 a0, y_bi x6] m) (fun m1 => y_bL (y_V sp ph d 240 [y_bo 11 0 a0, y_bi x6] m1) (fun v2 m2 => y_R sp ph d 249 71 [some (y_bo 11 0 a0), some (y_bi x1), some (y_bi x2), some (y_bi x3), some (y_bl (x4 + v2)), none, some (y_bi (x6 + 1)), none, none, none, none, none] [] m2) (fun e m1 => y_px e m1)) (fun e m1 => y_px e m1) := by
  rw [y_R_eq (md := z_md_249) rfl rfl]
  exact (y_ic rfl (y_bVc fun m1 => (y_sh (L' := [some (y_bo 11 0 a0), some (y_bi x1), some (y_bi x2), some (y_bi x3), some (y_bl x4), none, some (y_bi x6), none, none, none, none, none]) (S' := []) rfl rfl (y_bLc fun v2 m2 => (y_sh (L' := [some (y_bo 11 0 a0), some (y_bi x1), some (y_bi x2), some (y_bi x3), some (y_bl x4), none, some (y_bi x6), none, none, none, none, none]) (S' := [y_bl v2, y_bl x4]) rfl rfl rfl)))))
set_option maxRecDepth 4000 in
theorem y_E_249_100 (d : Nat) (a0 : Nat) (x1 : Int) (x2 : Int) (x3 : Int) (x4 : Int) (m : y_m) : y_R sp ph d 249 100 [some (y_bo 11 0 a0), some (y_bi x1), some (y_bi x2), some (y_bi x3), some (y_bl x4), none, none, none, none, none, none, none] [] m = y_bV (y_V sp ph d 238 [y_bo 11 0 a0, y_bi x1] m) (fun m1 => y_bI (y_V sp ph d 211 [y_bo 11 0 a0, y_bi (y_mI m1 98 0), y_bi (y_mI m1 98 1)] m1) (fun v2 m2 => y_R sp ph d 249 130 [some (y_bo 11 0 a0), none, some (y_bi x2), some (y_bi x3), some (y_bl x4), none, some (y_bi v2), some (y_bi v2), some (y_bi 2), none, none, none] [] m2) (fun e m1 => y_px e m1)) (fun e m1 => y_px e m1) := by
  rw [y_R_eq (md := z_md_249) rfl rfl]
  exact (y_bVc fun m1 => (y_sh (L' := [some (y_bo 11 0 a0), some (y_bi x1), some (y_bi x2), some (y_bi x3), some (y_bl x4), none, none, none, none, none, none, none]) (S' := []) rfl rfl (y_bIc fun v2 m2 => (y_sh (L' := [some (y_bo 11 0 a0), some (y_bi x1), some (y_bi x2), some (y_bi x3), some (y_bl x4), none, none, none, none, none, none, none]) (S' := [y_bi v2]) rfl rfl rfl))))
set_option maxRecDepth 4000 in
theorem y_E_249_130 (d : Nat) (a0 : Nat) (x2 : Int) (x3 : Int) (x4 : Int) (x6 : Int) (x7 : Int) (x8 : Int) (m : y_m) : y_R sp ph d 249 130 [some (y_bo 11 0 a0), none, some (y_bi x2), some (y_bi x3), some (y_bl x4), none, some (y_bi x6), some (y_bi x7), some (y_bi x8), none, none, none] [] m = if z_w (y_mI m a0 33) ≤ z_w x8 then y_R sp ph d 249 274 [none, none, none, none, some (y_bl x4), none, none, none, none, none, none, none] [] m else y_g (0 ≤ x8 ∧ x8 < (12 : Int)) (y_bI (y_V sp ph d 248 [y_bo 11 0 a0, y_bi (y_mI m 98 x8.toNat)] m) (fun v1 m1 => y_R sp ph d 249 155 [some (y_bo 11 0 a0), none, some (y_bi x2), some (y_bi x3), some (y_bl x4), none, some (y_bi x6), some (y_bi x7), some (y_bi x8), some (y_bi v1), some (y_bi 1), none] [] m1) (fun e m1 => y_px e m1)) := by
  rw [y_R_eq (md := z_md_249) rfl rfl]
  exact (y_ic rfl (y_gc (y_bIc fun v1 m1 => (y_sh (L' := [some (y_bo 11 0 a0), none, some (y_bi x2), some (y_bi x3), some (y_bl x4), none, some (y_bi x6), some (y_bi x7), some (y_bi x8), none, none, none]) (S' := [y_bi v1]) rfl rfl rfl))))
set_option maxRecDepth 4000 in
theorem y_E_249_155 (d : Nat) (a0 : Nat) (x2 : Int) (x3 : Int) (x4 : Int) (x6 : Int) (x7 : Int) (x8 : Int) (x9 : Int) (x10 : Int) (m : y_m) : y_R sp ph d 249 155 [some (y_bo 11 0 a0), none, some (y_bi x2), some (y_bi x3), some (y_bl x4), none, some (y_bi x6), some (y_bi x7), some (y_bi x8), some (y_bi x9), some (y_bi x10), none] [] m = if z_w x9 ≤ z_w x10 then y_R sp ph d 249 237 [some (y_bo 11 0 a0), none, some (y_bi x2), some (y_bi x3), some (y_bl x4), none, none, some (y_bi x7), some (y_bi x8), some (y_bi x9), none, none] [] m else y_g (0 ≤ x3 ∧ x3 < (12 : Int)) (y_g (0 ≤ x10 ∧ x10 < (12 : Int)) (y_bI (y_V sp ph d 211 [y_bo 11 0 a0, y_bi (y_mI m 94 x3.toNat), y_bi (y_mI m 94 x10.toNat)] m) (fun v1 m1 => if ¬ z_w (z_iand (z_ishr x2 (x10 - 1)) 1) = 0 then y_R sp ph d 249 231 [some (y_bo 11 0 a0), none, some (y_bi x2), some (y_bi x3), some (y_bl x4), none, some (y_bi x6), some (y_bi x7), some (y_bi x8), some (y_bi x9), some (y_bi x10), none] [] m1 else y_bI (y_V sp ph d 227 [y_bo 11 0 a0, y_bi x6, y_bi v1] m1) (fun v2 m2 => if z_w v2 = 0 then y_R sp ph d 249 231 [some (y_bo 11 0 a0), none, some (y_bi x2), some (y_bi x3), some (y_bl x4), none, some (y_bi x6), some (y_bi x7), some (y_bi x8), some (y_bi x9), some (y_bi x10), none] [] m2 else y_bI (y_V sp ph d 236 [y_bo 11 0 a0, y_bi (z_ior x2 (z_ishl 1 (x10 - 1))), y_bi x10, y_bi v1, y_bi x7] m2) (fun v3 m3 => y_g (0 ≤ v3 ∧ v3 < (98304 : Int)) (y_R sp ph d 249 231 [some (y_bo 11 0 a0), none, some (y_bi x2), some (y_bi x3), some (y_bl (x4 + (y_mJ m3 95 v3.toNat))), none, some (y_bi x6), some (y_bi x7), some (y_bi x8), some (y_bi x9), some (y_bi x10), none] [] m3)) (fun e m1 => y_px e m1)) (fun e m1 => y_px e m1)) (fun e m1 => y_px e m1))) := by
  rw [y_R_eq (md := z_md_249) rfl rfl]
  exact (y_ic rfl (y_gc (y_gc (y_bIc fun v1 m1 => (y_sh (L' := [some (y_bo 11 0 a0), none, some (y_bi x2), some (y_bi x3), some (y_bl x4), none, some (y_bi x6), some (y_bi x7), some (y_bi x8), some (y_bi x9), some (y_bi x10), none]) (S' := [y_bi v1]) rfl rfl (y_ic rfl (y_bIc fun v2 m2 => (y_sh (L' := [some (y_bo 11 0 a0), none, some (y_bi x2), some (y_bi x3), some (y_bl x4), none, some (y_bi x6), some (y_bi x7), some (y_bi x8), some (y_bi x9), some (y_bi x10), some (y_bi v1)]) (S' := [y_bi v2]) rfl rfl (y_ic rfl (y_bIc fun v3 m3 => (y_sh (L' := [some (y_bo 11 0 a0), none, some (y_bi x2), some (y_bi x3), some (y_bl x4), none, some (y_bi x6), some (y_bi x7), some (y_bi x8), some (y_bi x9), some (y_bi x10), some (y_bi v1)]) (S' := [y_bi v3, y_bo 101 98304 95, y_bl x4]) rfl rfl rfl)))))))))))
set_option maxRecDepth 4000 in
theorem y_E_249_231 (d : Nat) (a0 : Nat) (x2 : Int) (x3 : Int) (x4 : Int) (x6 : Int) (x7 : Int) (x8 : Int) (x9 : Int) (x10 : Int) (m : y_m) : y_R sp ph d 249 231 [some (y_bo 11 0 a0), none, some (y_bi x2), some (y_bi x3), some (y_bl x4), none, some (y_bi x6), some (y_bi x7), some (y_bi x8), some (y_bi x9), some (y_bi x10), none] [] m = y_R sp ph d 249 155 [some (y_bo 11 0 a0), none, some (y_bi x2), some (y_bi x3), some (y_bl x4), none, some (y_bi x6), some (y_bi x7), some (y_bi x8), some (y_bi x9), some (y_bi (x10 + 1)), none] [] m := (y_R_eq (md := z_md_249) rfl rfl).trans rfl
set_option maxRecDepth 4000 in
theorem y_E_249_237 (d : Nat) (a0 : Nat) (x2 : Int) (x3 : Int) (x4 : Int) (x7 : Int) (x8 : Int) (x9 : Int) (m : y_m) : y_R sp ph d 249 237 [some (y_bo 11 0 a0), none, some (y_bi x2), some (y_bi x3), some (y_bl x4), none, none, some (y_bi x7), some (y_bi x8), some (y_bi x9), none, none] [] m = y_g (0 ≤ x3 ∧ x3 < (12 : Int)) (y_g (0 ≤ x9 ∧ x9 < (12 : Int)) (y_bI (y_V sp ph d 211 [y_bo 11 0 a0, y_bi (y_mI m 94 x3.toNat), y_bi (y_mI m 94 x9.toNat)] m) (fun v1 m1 => y_R sp ph d 249 130 [some (y_bo 11 0 a0), none, some (y_bi (z_ior x2 (z_ishl 1 (x9 - 1)))), some (y_bi x9), some (y_bl x4), none, some (y_bi v1), some (y_bi x7), some (y_bi (x8 + 1)), none, none, none] [] m1) (fun e m1 => y_px e m1))) := by
  rw [y_R_eq (md := z_md_249) rfl rfl]
  exact (y_gc (y_gc (y_bIc fun v1 m1 => (y_sh (L' := [some (y_bo 11 0 a0), none, some (y_bi x2), some (y_bi x3), some (y_bl x4), none, none, some (y_bi x7), some (y_bi x8), some (y_bi x9), none, none]) (S' := [y_bi v1]) rfl rfl rfl))))
set_option maxRecDepth 4000 in
theorem y_E_249_274 (d : Nat) (x4 : Int) (m : y_m) : y_R sp ph d 249 274 [none, none, none, none, some (y_bl x4), none, none, none, none, none, none, none] [] m = y_rL x4 m := (y_R_eq (md := z_md_249) rfl rfl).trans rfl
set_option maxRecDepth 4000 in
theorem y_C_249 (d : Nat) (a0 : Nat) (m : y_m) : y_V sp ph (d + 1) 249 [y_bo 11 0 a0] m = y_R sp ph d 249 0 [some (y_bo 11 0 a0), none, none, none, none, none, none, none, none, none, none, none] [] m := (y_V_eq (md := z_md_249) rfl rfl rfl).trans rfl
/-! LacedHolesModel.laysBest (I)V -/
set_option maxRecDepth 4000 in
theorem y_E_250_0 (d : Nat) (a0 : Nat) (x1 : Int) (m : y_m) : y_R sp ph d 250 0 [some (y_bo 11 0 a0), some (y_bi x1), none, none, none] [] m = y_bI (y_V sp ph d 237 [y_bo 11 0 a0] m) (fun v1 m1 => y_R sp ph d 250 5 [some (y_bo 11 0 a0), some (y_bi x1), some (y_bi v1), none, none] [] m1) (fun e m1 => y_px e m1) := by
  rw [y_R_eq (md := z_md_250) rfl rfl]
  exact (y_bIc fun v1 m1 => (y_sh (L' := [some (y_bo 11 0 a0), some (y_bi x1), none, none, none]) (S' := [y_bi v1]) rfl rfl rfl))
set_option maxRecDepth 4000 in
theorem y_E_250_5 (d : Nat) (a0 : Nat) (x1 : Int) (x2 : Int) (m : y_m) : y_R sp ph d 250 5 [some (y_bo 11 0 a0), some (y_bi x1), some (y_bi x2), none, none] [] m = if z_w x2 ≤ 0 then y_R sp ph d 250 125 [none, none, none, none, none] [] m else y_R sp ph d 250 11 [some (y_bo 11 0 a0), some (y_bi x1), some (y_bi x2), some (y_bi 1), none] [] m := (y_R_eq (md := z_md_250) rfl rfl).trans rfl
set_option maxRecDepth 4000 in
theorem y_E_250_11 (d : Nat) (a0 : Nat) (x1 : Int) (x2 : Int) (x3 : Int) (m : y_m) : y_R sp ph d 250 11 [some (y_bo 11 0 a0), some (y_bi x1), some (y_bi x2), some (y_bi x3), none] [] m = if z_w (y_mI m a0 33) ≤ z_w x3 then y_R sp ph d 250 119 [some (y_bo 11 0 a0), some (y_bi x1), some (y_bi x2), none, none] [] m else if ¬ z_w (z_iand (z_ishr x2 (x3 - 1)) 1) = 0 then y_R sp ph d 250 32 [some (y_bo 11 0 a0), some (y_bi x1), some (y_bi x2), some (y_bi x3), none] [] m else y_R sp ph d 250 113 [some (y_bo 11 0 a0), some (y_bi x1), some (y_bi x2), some (y_bi x3), none] [] m := (y_R_eq (md := z_md_250) rfl rfl).trans rfl
set_option maxRecDepth 4000 in
theorem y_E_250_32 (d : Nat) (a0 : Nat) (x1 : Int) (x2 : Int) (x3 : Int) (m : y_m) : y_R sp ph d 250 32 [some (y_bo 11 0 a0), some (y_bi x1), some (y_bi x2), some (y_bi x3), none] [] m = y_R sp ph d 250 35 [some (y_bo 11 0 a0), some (y_bi x1), some (y_bi x2), some (y_bi x3), some (y_bi 0)] [] m := (y_R_eq (md := z_md_250) rfl rfl).trans rfl
set_option maxRecDepth 4000 in
theorem y_E_250_35 (d : Nat) (a0 : Nat) (x1 : Int) (x2 : Int) (x3 : Int) (x4 : Int) (m : y_m) : y_R sp ph d 250 35 [some (y_bo 11 0 a0), some (y_bi x1), some (y_bi x2), some (y_bi x3), some (y_bi x4)] [] m = if 4 ≤ z_w x4 then y_R sp ph d 250 113 [some (y_bo 11 0 a0), some (y_bi x1), some (y_bi x2), some (y_bi x3), none] [] m else if z_w x4 ≤ 1 then y_R sp ph d 250 58 [some (y_bo 11 0 a0), some (y_bi x1), some (y_bi x2), some (y_bi x3), some (y_bi x4)] [y_bi x3, y_bi x2, y_bo 11 0 a0, y_bo 101 98304 96] m else y_R sp ph d 250 59 [some (y_bo 11 0 a0), some (y_bi x1), some (y_bi x2), some (y_bi x3), some (y_bi x4)] [y_bi 1, y_bi x3, y_bi x2, y_bo 11 0 a0, y_bo 101 98304 96] m := (y_R_eq (md := z_md_250) rfl rfl).trans rfl
set_option maxRecDepth 4000 in
theorem y_E_250_58 (d : Nat) (a0 : Nat) (x1 : Int) (x2 : Int) (x3 : Int) (x4 : Int) (xs0 : Int) (xs1 : Int) (as2 : Nat) (as3 : Nat) (m : y_m) : y_R sp ph d 250 58 [some (y_bo 11 0 a0), some (y_bi x1), some (y_bi x2), some (y_bi x3), some (y_bi x4)] [y_bi xs0, y_bi xs1, y_bo 11 0 as2, y_bo 101 98304 as3] m = y_R sp ph d 250 59 [some (y_bo 11 0 a0), some (y_bi x1), some (y_bi x2), some (y_bi x3), some (y_bi x4)] [y_bi 0, y_bi xs0, y_bi xs1, y_bo 11 0 as2, y_bo 101 98304 as3] m := (y_R_eq (md := z_md_250) rfl rfl).trans rfl
set_option maxRecDepth 4000 in
theorem y_E_250_59 (d : Nat) (a0 : Nat) (x1 : Int) (x2 : Int) (x3 : Int) (x4 : Int) (xs0 : Int) (xs1 : Int) (xs2 : Int) (as3 : Nat) (as4 : Nat) (m : y_m) : y_R sp ph d 250 59 [some (y_bo 11 0 a0), some (y_bi x1), some (y_bi x2), some (y_bi x3), some (y_bi x4)] [y_bi xs0, y_bi xs1, y_bi xs2, y_bo 11 0 as3, y_bo 101 98304 as4] m = if ¬ z_w (z_irem x4 2) = 1 then y_R sp ph d 250 71 [some (y_bo 11 0 a0), some (y_bi x1), some (y_bi x2), some (y_bi x3), some (y_bi x4)] [y_bi xs0, y_bi xs1, y_bi xs2, y_bo 11 0 as3, y_bo 101 98304 as4] m else y_R sp ph d 250 72 [some (y_bo 11 0 a0), some (y_bi x1), some (y_bi x2), some (y_bi x3), some (y_bi x4)] [y_bi 1, y_bi xs0, y_bi xs1, y_bi xs2, y_bo 11 0 as3, y_bo 101 98304 as4] m := (y_R_eq (md := z_md_250) rfl rfl).trans rfl
set_option maxRecDepth 4000 in
theorem y_E_250_71 (d : Nat) (a0 : Nat) (x1 : Int) (x2 : Int) (x3 : Int) (x4 : Int) (xs0 : Int) (xs1 : Int) (xs2 : Int) (as3 : Nat) (as4 : Nat) (m : y_m) : y_R sp ph d 250 71 [some (y_bo 11 0 a0), some (y_bi x1), some (y_bi x2), some (y_bi x3), some (y_bi x4)] [y_bi xs0, y_bi xs1, y_bi xs2, y_bo 11 0 as3, y_bo 101 98304 as4] m = y_R sp ph d 250 72 [some (y_bo 11 0 a0), some (y_bi x1), some (y_bi x2), some (y_bi x3), some (y_bi x4)] [y_bi 0, y_bi xs0, y_bi xs1, y_bi xs2, y_bo 11 0 as3, y_bo 101 98304 as4] m := (y_R_eq (md := z_md_250) rfl rfl).trans rfl
set_option maxRecDepth 4000 in
theorem y_E_250_72 (d : Nat) (a0 : Nat) (x1 : Int) (x2 : Int) (x3 : Int) (x4 : Int) (xs0 : Int) (xs1 : Int) (xs2 : Int) (xs3 : Int) (as4 : Nat) (as5 : Nat) (m : y_m) : y_R sp ph d 250 72 [some (y_bo 11 0 a0), some (y_bi x1), some (y_bi x2), some (y_bi x3), some (y_bi x4)] [y_bi xs0, y_bi xs1, y_bi xs2, y_bi xs3, y_bo 11 0 as4, y_bo 101 98304 as5] m = y_bI (y_V sp ph d 236 [y_bo 11 0 as4, y_bi xs3, y_bi xs2, y_bi xs1, y_bi xs0] m) (fun v1 m1 => if z_w x4 ≤ 1 then y_R sp ph d 250 88 [some (y_bo 11 0 a0), some (y_bi x1), some (y_bi x2), some (y_bi x3), some (y_bi x4)] [y_bi x3, y_bi x2, y_bo 11 0 a0, y_bi v1, y_bo 101 98304 as5] m1 else y_R sp ph d 250 89 [some (y_bo 11 0 a0), some (y_bi x1), some (y_bi x2), some (y_bi x3), some (y_bi x4)] [y_bi 1, y_bi x3, y_bi x2, y_bo 11 0 a0, y_bi v1, y_bo 101 98304 as5] m1) (fun e m1 => y_px e m1) := by
  rw [y_R_eq (md := z_md_250) rfl rfl]
  exact (y_bIc fun v1 m1 => (y_sh (L' := [some (y_bo 11 0 a0), some (y_bi x1), some (y_bi x2), some (y_bi x3), some (y_bi x4)]) (S' := [y_bi v1, y_bo 101 98304 as5]) rfl rfl rfl))
set_option maxRecDepth 4000 in
theorem y_E_250_88 (d : Nat) (a0 : Nat) (x1 : Int) (x2 : Int) (x3 : Int) (x4 : Int) (xs0 : Int) (xs1 : Int) (as2 : Nat) (xs3 : Int) (as4 : Nat) (m : y_m) : y_R sp ph d 250 88 [some (y_bo 11 0 a0), some (y_bi x1), some (y_bi x2), some (y_bi x3), some (y_bi x4)] [y_bi xs0, y_bi xs1, y_bo 11 0 as2, y_bi xs3, y_bo 101 98304 as4] m = y_R sp ph d 250 89 [some (y_bo 11 0 a0), some (y_bi x1), some (y_bi x2), some (y_bi x3), some (y_bi x4)] [y_bi 0, y_bi xs0, y_bi xs1, y_bo 11 0 as2, y_bi xs3, y_bo 101 98304 as4] m := (y_R_eq (md := z_md_250) rfl rfl).trans rfl
set_option maxRecDepth 4000 in
theorem y_E_250_89 (d : Nat) (a0 : Nat) (x1 : Int) (x2 : Int) (x3 : Int) (x4 : Int) (xs0 : Int) (xs1 : Int) (xs2 : Int) (as3 : Nat) (xs4 : Int) (as5 : Nat) (m : y_m) : y_R sp ph d 250 89 [some (y_bo 11 0 a0), some (y_bi x1), some (y_bi x2), some (y_bi x3), some (y_bi x4)] [y_bi xs0, y_bi xs1, y_bi xs2, y_bo 11 0 as3, y_bi xs4, y_bo 101 98304 as5] m = if ¬ z_w (z_irem x4 2) = 1 then y_R sp ph d 250 101 [some (y_bo 11 0 a0), some (y_bi x1), some (y_bi x2), some (y_bi x3), some (y_bi x4)] [y_bi xs0, y_bi xs1, y_bi xs2, y_bo 11 0 as3, y_bi xs4, y_bo 101 98304 as5] m else y_R sp ph d 250 102 [some (y_bo 11 0 a0), some (y_bi x1), some (y_bi x2), some (y_bi x3), some (y_bi x4)] [y_bi 1, y_bi xs0, y_bi xs1, y_bi xs2, y_bo 11 0 as3, y_bi xs4, y_bo 101 98304 as5] m := (y_R_eq (md := z_md_250) rfl rfl).trans rfl
set_option maxRecDepth 4000 in
theorem y_E_250_101 (d : Nat) (a0 : Nat) (x1 : Int) (x2 : Int) (x3 : Int) (x4 : Int) (xs0 : Int) (xs1 : Int) (xs2 : Int) (as3 : Nat) (xs4 : Int) (as5 : Nat) (m : y_m) : y_R sp ph d 250 101 [some (y_bo 11 0 a0), some (y_bi x1), some (y_bi x2), some (y_bi x3), some (y_bi x4)] [y_bi xs0, y_bi xs1, y_bi xs2, y_bo 11 0 as3, y_bi xs4, y_bo 101 98304 as5] m = y_R sp ph d 250 102 [some (y_bo 11 0 a0), some (y_bi x1), some (y_bi x2), some (y_bi x3), some (y_bi x4)] [y_bi 0, y_bi xs0, y_bi xs1, y_bi xs2, y_bo 11 0 as3, y_bi xs4, y_bo 101 98304 as5] m := (y_R_eq (md := z_md_250) rfl rfl).trans rfl
set_option maxRecDepth 4000 in
theorem y_E_250_102 (d : Nat) (a0 : Nat) (x1 : Int) (x2 : Int) (x3 : Int) (x4 : Int) (xs0 : Int) (xs1 : Int) (xs2 : Int) (xs3 : Int) (as4 : Nat) (xs5 : Int) (as6 : Nat) (m : y_m) : y_R sp ph d 250 102 [some (y_bo 11 0 a0), some (y_bi x1), some (y_bi x2), some (y_bi x3), some (y_bi x4)] [y_bi xs0, y_bi xs1, y_bi xs2, y_bi xs3, y_bo 11 0 as4, y_bi xs5, y_bo 101 98304 as6] m = y_bL (y_V sp ph d 251 [y_bo 11 0 as4, y_bi xs3, y_bi xs2, y_bi xs1, y_bi xs0, y_bi x1] m) (fun v1 m1 => y_g (0 ≤ xs5 ∧ xs5 < (98304 : Int)) (y_R sp ph d 250 35 [some (y_bo 11 0 a0), some (y_bi x1), some (y_bi x2), some (y_bi x3), some (y_bi (x4 + 1))] [] (y_sJ m1 as6 xs5.toNat v1))) (fun e m1 => y_px e m1) := by
  rw [y_R_eq (md := z_md_250) rfl rfl]
  exact (y_bLc fun v1 m1 => (y_sh (L' := [some (y_bo 11 0 a0), some (y_bi x1), some (y_bi x2), some (y_bi x3), some (y_bi x4)]) (S' := [y_bl v1, y_bi xs5, y_bo 101 98304 as6]) rfl rfl rfl))
set_option maxRecDepth 4000 in
theorem y_E_250_113 (d : Nat) (a0 : Nat) (x1 : Int) (x2 : Int) (x3 : Int) (m : y_m) : y_R sp ph d 250 113 [some (y_bo 11 0 a0), some (y_bi x1), some (y_bi x2), some (y_bi x3), none] [] m = y_R sp ph d 250 11 [some (y_bo 11 0 a0), some (y_bi x1), some (y_bi x2), some (y_bi (x3 + 1)), none] [] m := (y_R_eq (md := z_md_250) rfl rfl).trans rfl
set_option maxRecDepth 4000 in
theorem y_E_250_119 (d : Nat) (a0 : Nat) (x1 : Int) (x2 : Int) (m : y_m) : y_R sp ph d 250 119 [some (y_bo 11 0 a0), some (y_bi x1), some (y_bi x2), none, none] [] m = y_R sp ph d 250 5 [some (y_bo 11 0 a0), some (y_bi x1), some (y_bi (x2 + (-1))), none, none] [] m := (y_R_eq (md := z_md_250) rfl rfl).trans rfl
set_option maxRecDepth 4000 in
theorem y_E_250_125 (d : Nat) (m : y_m) : y_R sp ph d 250 125 [none, none, none, none, none] [] m = y_rV m := (y_R_eq (md := z_md_250) rfl rfl).trans rfl
set_option maxRecDepth 4000 in
theorem y_C_250 (d : Nat) (a0 : Nat) (x1 : Int) (m : y_m) : y_V sp ph (d + 1) 250 [y_bo 11 0 a0, y_bi x1] m = y_R sp ph d 250 0 [some (y_bo 11 0 a0), some (y_bi x1), none, none, none] [] m := (y_V_eq (md := z_md_250) rfl rfl rfl).trans rfl
/-! LacedHolesModel.bestFrom (IIZZI)J -/
set_option maxRecDepth 4000 in
theorem y_E_251_0 (d : Nat) (a0 : Nat) (x1 : Int) (x2 : Int) (x3 : Int) (x4 : Int) (x5 : Int) (m : y_m) : y_R sp ph d 251 0 [some (y_bo 11 0 a0), some (y_bi x1), some (y_bi x2), some (y_bi x3), some (y_bi x4), some (y_bi x5), none, none, none, none, none] [] m = y_bI (y_V sp ph d 237 [y_bo 11 0 a0] m) (fun v1 m1 => if ¬ z_w x1 = z_w v1 then y_R sp ph d 251 70 [some (y_bo 11 0 a0), some (y_bi x1), some (y_bi x2), some (y_bi x3), some (y_bi x4), some (y_bi x5), none, none, none, none, none] [] m1 else y_g (0 ≤ x2 ∧ x2 < (12 : Int)) (y_bI (y_V sp ph d 211 [y_bo 11 0 a0, y_bi (y_mI m1 94 x2.toNat), y_bi (y_mI m1 94 0)] m1) (fun v2 m2 => y_bI (y_V sp ph d 227 [y_bo 11 0 a0, y_bi x3, y_bi v2] m2) (fun v3 m3 => if z_w v3 = 0 then y_R sp ph d 251 66 [none, none, none, none, none, none, none, none, none, none, none] [] m3 else y_bI (y_V sp ph d 227 [y_bo 11 0 a0, y_bi v2, y_bi x4] m3) (fun v4 m4 => if z_w v4 = 0 then y_R sp ph d 251 66 [none, none, none, none, none, none, none, none, none, none, none] [] m4 else y_g (0 ≤ x2 ∧ x2 < (12 : Int)) (y_bL (y_V sp ph d 212 [y_bo 11 0 a0, y_bi (y_mI m4 94 x2.toNat), y_bi (y_mI m4 94 0)] m4) (fun v5 m5 => y_R sp ph d 251 69 [none, none, none, none, none, none, none, none, none, none, none] [y_bl v5] m5) (fun e m1 => y_px e m1))) (fun e m1 => y_px e m1)) (fun e m1 => y_px e m1)) (fun e m1 => y_px e m1))) (fun e m1 => y_px e m1) := by
  rw [y_R_eq (md := z_md_251) rfl rfl]
  exact (y_bIc fun v1 m1 => (y_sh (L' := [some (y_bo 11 0 a0), some (y_bi x1), some (y_bi x2), some (y_bi x3), some (y_bi x4), some (y_bi x5), none, none, none, none, none]) (S' := [y_bi v1, y_bi x1]) rfl rfl (y_ic rfl (y_gc (y_bIc fun v2 m2 => (y_sh (L' := [some (y_bo 11 0 a0), some (y_bi x1), some (y_bi x2), some (y_bi x3), some (y_bi x4), some (y_bi x5), none, none, none, none, none]) (S' := [y_bi v2]) rfl rfl (y_bIc fun v3 m3 => (y_sh (L' := [some (y_bo 11 0 a0), some (y_bi x1), some (y_bi x2), some (y_bi x3), some (y_bi x4), some (y_bi x5), some (y_bi v2), none, none, none, none]) (S' := [y_bi v3]) rfl rfl (y_ic rfl (y_bIc fun v4 m4 => (y_sh (L' := [some (y_bo 11 0 a0), some (y_bi x1), some (y_bi x2), some (y_bi x3), some (y_bi x4), some (y_bi x5), some (y_bi v2), none, none, none, none]) (S' := [y_bi v4]) rfl rfl (y_ic rfl (y_gc (y_bLc fun v5 m5 => (y_sh (L' := [some (y_bo 11 0 a0), some (y_bi x1), some (y_bi x2), some (y_bi x3), some (y_bi x4), some (y_bi x5), some (y_bi v2), none, none, none, none]) (S' := [y_bl v5]) rfl rfl rfl)))))))))))))))
set_option maxRecDepth 4000 in
theorem y_E_251_66 (d : Nat) (m : y_m) : y_R sp ph d 251 66 [none, none, none, none, none, none, none, none, none, none, none] [] m = y_R sp ph d 251 69 [none, none, none, none, none, none, none, none, none, none, none] [y_bl (-1)] m := (y_R_eq (md := z_md_251) rfl rfl).trans rfl
set_option maxRecDepth 4000 in
theorem y_E_251_69 (d : Nat) (xs0 : Int) (m : y_m) : y_R sp ph d 251 69 [none, none, none, none, none, none, none, none, none, none, none] [y_bl xs0] m = y_rL xs0 m := (y_R_eq (md := z_md_251) rfl rfl).trans rfl
set_option maxRecDepth 4000 in
theorem y_E_251_70 (d : Nat) (a0 : Nat) (x1 : Int) (x2 : Int) (x3 : Int) (x4 : Int) (x5 : Int) (m : y_m) : y_R sp ph d 251 70 [some (y_bo 11 0 a0), some (y_bi x1), some (y_bi x2), some (y_bi x3), some (y_bi x4), some (y_bi x5), none, none, none, none, none] [] m = y_R sp ph d 251 78 [some (y_bo 11 0 a0), some (y_bi x1), some (y_bi x2), some (y_bi x3), some (y_bi x4), some (y_bi x5), some (y_bl (-1)), none, some (y_bi 1), none, none] [] m := (y_R_eq (md := z_md_251) rfl rfl).trans rfl
set_option maxRecDepth 4000 in
theorem y_E_251_78 (d : Nat) (a0 : Nat) (x1 : Int) (x2 : Int) (x3 : Int) (x4 : Int) (x5 : Int) (x6 : Int) (x8 : Int) (m : y_m) : y_R sp ph d 251 78 [some (y_bo 11 0 a0), some (y_bi x1), some (y_bi x2), some (y_bi x3), some (y_bi x4), some (y_bi x5), some (y_bl x6), none, some (y_bi x8), none, none] [] m = if z_w (y_mI m a0 33) ≤ z_w x8 then y_R sp ph d 251 141 [none, none, none, none, none, none, some (y_bl x6), none, none, none, none] [] m else y_bL (y_V sp ph d 252 [y_bo 11 0 a0, y_bi x1, y_bi x2, y_bi x3, y_bi x4, y_bi x8] m) (fun v1 m1 => if z_w (z_lcmp v1 (-1)) = 0 then y_R sp ph d 251 135 [some (y_bo 11 0 a0), some (y_bi x1), some (y_bi x2), some (y_bi x3), some (y_bi x4), some (y_bi x5), some (y_bl x6), none, some (y_bi x8), none, none] [] m1 else if z_w (z_lcmp x6 (-1)) = 0 then y_R sp ph d 251 131 [some (y_bo 11 0 a0), some (y_bi x1), some (y_bi x2), some (y_bi x3), some (y_bi x4), some (y_bi x5), none, none, some (y_bi x8), some (y_bl v1), none] [] m1 else y_bI (y_V sp ph d 219 [y_bo 11 0 a0, y_bl v1, y_bl x6, y_bi x5] m1) (fun v2 m2 => if z_w v2 = 0 then y_R sp ph d 251 135 [some (y_bo 11 0 a0), some (y_bi x1), some (y_bi x2), some (y_bi x3), some (y_bi x4), some (y_bi x5), some (y_bl x6), none, some (y_bi x8), none, none] [] m2 else y_R sp ph d 251 131 [some (y_bo 11 0 a0), some (y_bi x1), some (y_bi x2), some (y_bi x3), some (y_bi x4), some (y_bi x5), none, none, some (y_bi x8), some (y_bl v1), none] [] m2) (fun e m1 => y_px e m1)) (fun e m1 => y_px e m1) := by
  rw [y_R_eq (md := z_md_251) rfl rfl]
  exact (y_ic rfl (y_bLc fun v1 m1 => (y_sh (L' := [some (y_bo 11 0 a0), some (y_bi x1), some (y_bi x2), some (y_bi x3), some (y_bi x4), some (y_bi x5), some (y_bl x6), none, some (y_bi x8), none, none]) (S' := [y_bl v1]) rfl rfl (y_ic rfl (y_ic rfl (y_bIc fun v2 m2 => (y_sh (L' := [some (y_bo 11 0 a0), some (y_bi x1), some (y_bi x2), some (y_bi x3), some (y_bi x4), some (y_bi x5), some (y_bl x6), none, some (y_bi x8), some (y_bl v1), none]) (S' := [y_bi v2]) rfl rfl rfl)))))))
set_option maxRecDepth 4000 in
theorem y_E_251_131 (d : Nat) (a0 : Nat) (x1 : Int) (x2 : Int) (x3 : Int) (x4 : Int) (x5 : Int) (x8 : Int) (x9 : Int) (m : y_m) : y_R sp ph d 251 131 [some (y_bo 11 0 a0), some (y_bi x1), some (y_bi x2), some (y_bi x3), some (y_bi x4), some (y_bi x5), none, none, some (y_bi x8), some (y_bl x9), none] [] m = y_R sp ph d 251 135 [some (y_bo 11 0 a0), some (y_bi x1), some (y_bi x2), some (y_bi x3), some (y_bi x4), some (y_bi x5), some (y_bl x9), none, some (y_bi x8), none, none] [] m := (y_R_eq (md := z_md_251) rfl rfl).trans rfl
set_option maxRecDepth 4000 in
theorem y_E_251_135 (d : Nat) (a0 : Nat) (x1 : Int) (x2 : Int) (x3 : Int) (x4 : Int) (x5 : Int) (x6 : Int) (x8 : Int) (m : y_m) : y_R sp ph d 251 135 [some (y_bo 11 0 a0), some (y_bi x1), some (y_bi x2), some (y_bi x3), some (y_bi x4), some (y_bi x5), some (y_bl x6), none, some (y_bi x8), none, none] [] m = y_R sp ph d 251 78 [some (y_bo 11 0 a0), some (y_bi x1), some (y_bi x2), some (y_bi x3), some (y_bi x4), some (y_bi x5), some (y_bl x6), none, some (y_bi (x8 + 1)), none, none] [] m := (y_R_eq (md := z_md_251) rfl rfl).trans rfl
set_option maxRecDepth 4000 in
theorem y_E_251_141 (d : Nat) (x6 : Int) (m : y_m) : y_R sp ph d 251 141 [none, none, none, none, none, none, some (y_bl x6), none, none, none, none] [] m = y_rL x6 m := (y_R_eq (md := z_md_251) rfl rfl).trans rfl
set_option maxRecDepth 4000 in
theorem y_C_251 (d : Nat) (a0 : Nat) (x1 : Int) (x2 : Int) (x3 : Int) (x4 : Int) (x5 : Int) (m : y_m) : y_V sp ph (d + 1) 251 [y_bo 11 0 a0, y_bi x1, y_bi x2, y_bi x3, y_bi x4, y_bi x5] m = y_R sp ph d 251 0 [some (y_bo 11 0 a0), some (y_bi x1), some (y_bi x2), some (y_bi x3), some (y_bi x4), some (y_bi x5), none, none, none, none, none] [] m := (y_V_eq (md := z_md_251) rfl rfl rfl).trans rfl
/-! LacedHolesModel.bestBy (IIZZI)J -/
set_option maxRecDepth 4000 in
theorem y_E_252_0 (d : Nat) (a0 : Nat) (x1 : Int) (x2 : Int) (x3 : Int) (x4 : Int) (x5 : Int) (m : y_m) : y_R sp ph d 252 0 [some (y_bo 11 0 a0), some (y_bi x1), some (y_bi x2), some (y_bi x3), some (y_bi x4), some (y_bi x5), none, none, none] [] m = y_g (0 ≤ x2 ∧ x2 < (12 : Int)) (y_g (0 ≤ x5 ∧ x5 < (12 : Int)) (y_bI (y_V sp ph d 211 [y_bo 11 0 a0, y_bi (y_mI m 94 x2.toNat), y_bi (y_mI m 94 x5.toNat)] m) (fun v1 m1 => if z_w (z_iand (z_ishr x1 (x5 - 1)) 1) = 1 then y_R sp ph d 252 41 [none, none, none, none, none, none, none, none, none] [] m1 else y_bI (y_V sp ph d 227 [y_bo 11 0 a0, y_bi x3, y_bi v1] m1) (fun v2 m2 => if ¬ z_w v2 = 0 then y_R sp ph d 252 45 [some (y_bo 11 0 a0), some (y_bi x1), some (y_bi x2), none, some (y_bi x4), some (y_bi x5), some (y_bi v1), none, none] [] m2 else y_R sp ph d 252 41 [none, none, none, none, none, none, none, none, none] [] m2) (fun e m1 => y_px e m1)) (fun e m1 => y_px e m1))) := by
  rw [y_R_eq (md := z_md_252) rfl rfl]
  exact (y_gc (y_gc (y_bIc fun v1 m1 => (y_sh (L' := [some (y_bo 11 0 a0), some (y_bi x1), some (y_bi x2), some (y_bi x3), some (y_bi x4), some (y_bi x5), none, none, none]) (S' := [y_bi v1]) rfl rfl (y_ic rfl (y_bIc fun v2 m2 => (y_sh (L' := [some (y_bo 11 0 a0), some (y_bi x1), some (y_bi x2), some (y_bi x3), some (y_bi x4), some (y_bi x5), some (y_bi v1), none, none]) (S' := [y_bi v2]) rfl rfl rfl)))))))
set_option maxRecDepth 4000 in
theorem y_E_252_41 (d : Nat) (m : y_m) : y_R sp ph d 252 41 [none, none, none, none, none, none, none, none, none] [] m = y_rL (-1) m := (y_R_eq (md := z_md_252) rfl rfl).trans rfl
set_option maxRecDepth 4000 in
theorem y_E_252_45 (d : Nat) (a0 : Nat) (x1 : Int) (x2 : Int) (x4 : Int) (x5 : Int) (x6 : Int) (m : y_m) : y_R sp ph d 252 45 [some (y_bo 11 0 a0), some (y_bi x1), some (y_bi x2), none, some (y_bi x4), some (y_bi x5), some (y_bi x6), none, none] [] m = y_bI (y_V sp ph d 236 [y_bo 11 0 a0, y_bi (z_ior x1 (z_ishl 1 (x5 - 1))), y_bi x5, y_bi x6, y_bi x4] m) (fun v1 m1 => y_g (0 ≤ v1 ∧ v1 < (98304 : Int)) (if ¬ z_w (z_lcmp (y_mJ m1 96 v1.toNat) (-1)) = 0 then y_R sp ph d 252 85 [some (y_bo 11 0 a0), none, some (y_bi x2), none, none, some (y_bi x5), none, some (y_bl (y_mJ m1 96 v1.toNat)), none] [] m1 else y_R sp ph d 252 105 [none, none, none, none, none, none, none, none, none] [y_bl (-1)] m1)) (fun e m1 => y_px e m1) := by
  rw [y_R_eq (md := z_md_252) rfl rfl]
  exact (y_bIc fun v1 m1 => (y_sh (L' := [some (y_bo 11 0 a0), some (y_bi x1), some (y_bi x2), none, some (y_bi x4), some (y_bi x5), some (y_bi x6), none, none]) (S' := [y_bi v1, y_bo 101 98304 96]) rfl rfl rfl))
set_option maxRecDepth 4000 in
theorem y_E_252_85 (d : Nat) (a0 : Nat) (x2 : Int) (x5 : Int) (x7 : Int) (m : y_m) : y_R sp ph d 252 85 [some (y_bo 11 0 a0), none, some (y_bi x2), none, none, some (y_bi x5), none, some (y_bl x7), none] [] m = y_g (0 ≤ x2 ∧ x2 < (12 : Int)) (y_g (0 ≤ x5 ∧ x5 < (12 : Int)) (y_bL (y_V sp ph d 212 [y_bo 11 0 a0, y_bi (y_mI m 94 x2.toNat), y_bi (y_mI m 94 x5.toNat)] m) (fun v1 m1 => y_R sp ph d 252 105 [none, none, none, none, none, none, none, none, none] [y_bl (x7 + v1)] m1) (fun e m1 => y_px e m1))) := by
  rw [y_R_eq (md := z_md_252) rfl rfl]
  exact (y_gc (y_gc (y_bLc fun v1 m1 => (y_sh (L' := [some (y_bo 11 0 a0), none, some (y_bi x2), none, none, some (y_bi x5), none, some (y_bl x7), none]) (S' := [y_bl v1, y_bl x7]) rfl rfl rfl))))
set_option maxRecDepth 4000 in
theorem y_E_252_105 (d : Nat) (xs0 : Int) (m : y_m) : y_R sp ph d 252 105 [none, none, none, none, none, none, none, none, none] [y_bl xs0] m = y_rL xs0 m := (y_R_eq (md := z_md_252) rfl rfl).trans rfl
set_option maxRecDepth 4000 in
theorem y_C_252 (d : Nat) (a0 : Nat) (x1 : Int) (x2 : Int) (x3 : Int) (x4 : Int) (x5 : Int) (m : y_m) : y_V sp ph (d + 1) 252 [y_bo 11 0 a0, y_bi x1, y_bi x2, y_bi x3, y_bi x4, y_bi x5] m = y_R sp ph d 252 0 [some (y_bo 11 0 a0), some (y_bi x1), some (y_bi x2), some (y_bi x3), some (y_bi x4), some (y_bi x5), none, none, none] [] m := (y_V_eq (md := z_md_252) rfl rfl rfl).trans rfl
/-! LacedHolesModel.bestStart (I)J -/
set_option maxRecDepth 4000 in
theorem y_E_253_0 (d : Nat) (a0 : Nat) (x1 : Int) (m : y_m) : y_R sp ph d 253 0 [some (y_bo 11 0 a0), some (y_bi x1), none, none, none] [] m = y_g (0 ≤ x1 ∧ x1 < (12 : Int)) (y_bI (y_V sp ph d 211 [y_bo 11 0 a0, y_bi (y_mI m 94 0), y_bi (y_mI m 94 x1.toNat)] m) (fun v1 m1 => y_bI (y_V sp ph d 236 [y_bo 11 0 a0, y_bi (z_ishl 1 (x1 - 1)), y_bi x1, y_bi v1, y_bi v1] m1) (fun v2 m2 => y_g (0 ≤ v2 ∧ v2 < (98304 : Int)) (if ¬ z_w (z_lcmp (y_mJ m2 96 v2.toNat) (-1)) = 0 then y_R sp ph d 253 49 [some (y_bo 11 0 a0), some (y_bi x1), none, some (y_bl (y_mJ m2 96 v2.toNat)), none] [] m2 else y_R sp ph d 253 67 [none, none, none, none, none] [y_bl (-1)] m2)) (fun e m1 => y_px e m1)) (fun e m1 => y_px e m1)) := by
  rw [y_R_eq (md := z_md_253) rfl rfl]
  exact (y_gc (y_bIc fun v1 m1 => (y_sh (L' := [some (y_bo 11 0 a0), some (y_bi x1), none, none, none]) (S' := [y_bi v1]) rfl rfl (y_bIc fun v2 m2 => (y_sh (L' := [some (y_bo 11 0 a0), some (y_bi x1), some (y_bi v1), none, none]) (S' := [y_bi v2, y_bo 101 98304 96]) rfl rfl rfl)))))
set_option maxRecDepth 4000 in
theorem y_E_253_49 (d : Nat) (a0 : Nat) (x1 : Int) (x3 : Int) (m : y_m) : y_R sp ph d 253 49 [some (y_bo 11 0 a0), some (y_bi x1), none, some (y_bl x3), none] [] m = y_g (0 ≤ x1 ∧ x1 < (12 : Int)) (y_bL (y_V sp ph d 212 [y_bo 11 0 a0, y_bi (y_mI m 94 0), y_bi (y_mI m 94 x1.toNat)] m) (fun v1 m1 => y_R sp ph d 253 67 [none, none, none, none, none] [y_bl (x3 + v1)] m1) (fun e m1 => y_px e m1)) := by
  rw [y_R_eq (md := z_md_253) rfl rfl]
  exact (y_gc (y_bLc fun v1 m1 => (y_sh (L' := [some (y_bo 11 0 a0), some (y_bi x1), none, some (y_bl x3), none]) (S' := [y_bl v1, y_bl x3]) rfl rfl rfl)))
set_option maxRecDepth 4000 in
theorem y_E_253_67 (d : Nat) (xs0 : Int) (m : y_m) : y_R sp ph d 253 67 [none, none, none, none, none] [y_bl xs0] m = y_rL xs0 m := (y_R_eq (md := z_md_253) rfl rfl).trans rfl
set_option maxRecDepth 4000 in
theorem y_C_253 (d : Nat) (a0 : Nat) (x1 : Int) (m : y_m) : y_V sp ph (d + 1) 253 [y_bo 11 0 a0, y_bi x1] m = y_R sp ph d 253 0 [some (y_bo 11 0 a0), some (y_bi x1), none, none, none] [] m := (y_V_eq (md := z_md_253) rfl rfl rfl).trans rfl
/-! LacedHolesModel.findsBest (II)J -/
set_option maxRecDepth 4000 in
theorem y_E_254_0 (d : Nat) (a0 : Nat) (x1 : Int) (x2 : Int) (m : y_m) : y_R sp ph d 254 0 [some (y_bo 11 0 a0), some (y_bi x1), some (y_bi x2), none, none, none, none, none, none, none, none, none, none, none, none, none, none] [] m = y_bV (y_V sp ph d 235 [y_bo 11 0 a0, y_bi x1] m) (fun m1 => y_bV (y_V sp ph d 250 [y_bo 11 0 a0, y_bi x2] m1) (fun m2 => y_R sp ph d 254 20 [some (y_bo 11 0 a0), none, some (y_bi x2), some (y_bl (-1)), none, some (y_bi 0), some (y_bi 1), none, none, none, none, none, none, none, none, none, none] [] m2) (fun e m1 => y_px e m1)) (fun e m1 => y_px e m1) := by
  rw [y_R_eq (md := z_md_254) rfl rfl]
  exact (y_bVc fun m1 => (y_sh (L' := [some (y_bo 11 0 a0), some (y_bi x1), some (y_bi x2), none, none, none, none, none, none, none, none, none, none, none, none, none, none]) (S' := []) rfl rfl (y_bVc fun m2 => (y_sh (L' := [some (y_bo 11 0 a0), some (y_bi x1), some (y_bi x2), none, none, none, none, none, none, none, none, none, none, none, none, none, none]) (S' := []) rfl rfl rfl))))
set_option maxRecDepth 4000 in
theorem y_E_254_20 (d : Nat) (a0 : Nat) (x2 : Int) (x3 : Int) (x5 : Int) (x6 : Int) (m : y_m) : y_R sp ph d 254 20 [some (y_bo 11 0 a0), none, some (y_bi x2), some (y_bl x3), none, some (y_bi x5), some (y_bi x6), none, none, none, none, none, none, none, none, none, none] [] m = if z_w (y_mI m a0 33) ≤ z_w x6 then y_R sp ph d 254 81 [some (y_bo 11 0 a0), none, some (y_bi x2), some (y_bl x3), none, some (y_bi x5), none, none, none, none, none, none, none, none, none, none, none] [] m else y_bL (y_V sp ph d 253 [y_bo 11 0 a0, y_bi x6] m) (fun v1 m1 => if z_w (z_lcmp v1 (-1)) = 0 then y_R sp ph d 254 75 [some (y_bo 11 0 a0), none, some (y_bi x2), some (y_bl x3), none, some (y_bi x5), some (y_bi x6), none, none, none, none, none, none, none, none, none, none] [] m1 else if z_w (z_lcmp x3 (-1)) = 0 then y_R sp ph d 254 68 [some (y_bo 11 0 a0), none, some (y_bi x2), none, none, none, some (y_bi x6), some (y_bl v1), none, none, none, none, none, none, none, none, none] [] m1 else y_bI (y_V sp ph d 219 [y_bo 11 0 a0, y_bl v1, y_bl x3, y_bi x2] m1) (fun v2 m2 => if ¬ z_w v2 = 0 then y_R sp ph d 254 68 [some (y_bo 11 0 a0), none, some (y_bi x2), none, none, none, some (y_bi x6), some (y_bl v1), none, none, none, none, none, none, none, none, none] [] m2 else y_R sp ph d 254 75 [some (y_bo 11 0 a0), none, some (y_bi x2), some (y_bl x3), none, some (y_bi x5), some (y_bi x6), none, none, none, none, none, none, none, none, none, none] [] m2) (fun e m1 => y_px e m1)) (fun e m1 => y_px e m1) := by
  rw [y_R_eq (md := z_md_254) rfl rfl]
  exact (y_ic rfl (y_bLc fun v1 m1 => (y_sh (L' := [some (y_bo 11 0 a0), none, some (y_bi x2), some (y_bl x3), none, some (y_bi x5), some (y_bi x6), none, none, none, none, none, none, none, none, none, none]) (S' := [y_bl v1]) rfl rfl (y_ic rfl (y_ic rfl (y_bIc fun v2 m2 => (y_sh (L' := [some (y_bo 11 0 a0), none, some (y_bi x2), some (y_bl x3), none, some (y_bi x5), some (y_bi x6), some (y_bl v1), none, none, none, none, none, none, none, none, none]) (S' := [y_bi v2]) rfl rfl rfl)))))))
set_option maxRecDepth 4000 in
theorem y_E_254_68 (d : Nat) (a0 : Nat) (x2 : Int) (x6 : Int) (x7 : Int) (m : y_m) : y_R sp ph d 254 68 [some (y_bo 11 0 a0), none, some (y_bi x2), none, none, none, some (y_bi x6), some (y_bl x7), none, none, none, none, none, none, none, none, none] [] m = y_R sp ph d 254 75 [some (y_bo 11 0 a0), none, some (y_bi x2), some (y_bl x7), none, some (y_bi x6), some (y_bi x6), none, none, none, none, none, none, none, none, none, none] [] m := (y_R_eq (md := z_md_254) rfl rfl).trans rfl
set_option maxRecDepth 4000 in
theorem y_E_254_75 (d : Nat) (a0 : Nat) (x2 : Int) (x3 : Int) (x5 : Int) (x6 : Int) (m : y_m) : y_R sp ph d 254 75 [some (y_bo 11 0 a0), none, some (y_bi x2), some (y_bl x3), none, some (y_bi x5), some (y_bi x6), none, none, none, none, none, none, none, none, none, none] [] m = y_R sp ph d 254 20 [some (y_bo 11 0 a0), none, some (y_bi x2), some (y_bl x3), none, some (y_bi x5), some (y_bi (x6 + 1)), none, none, none, none, none, none, none, none, none, none] [] m := (y_R_eq (md := z_md_254) rfl rfl).trans rfl
set_option maxRecDepth 4000 in
theorem y_E_254_81 (d : Nat) (a0 : Nat) (x2 : Int) (x3 : Int) (x5 : Int) (m : y_m) : y_R sp ph d 254 81 [some (y_bo 11 0 a0), none, some (y_bi x2), some (y_bl x3), none, some (y_bi x5), none, none, none, none, none, none, none, none, none, none, none] [] m = if ¬ z_w (z_lcmp x3 (-1)) = 0 then y_R sp ph d 254 93 [some (y_bo 11 0 a0), none, some (y_bi x2), some (y_bl x3), none, some (y_bi x5), none, none, none, none, none, none, none, none, none, none, none] [] m else y_rL (-1) m := (y_R_eq (md := z_md_254) rfl rfl).trans rfl
set_option maxRecDepth 4000 in
theorem y_E_254_93 (d : Nat) (a0 : Nat) (x2 : Int) (x3 : Int) (x5 : Int) (m : y_m) : y_R sp ph d 254 93 [some (y_bo 11 0 a0), none, some (y_bi x2), some (y_bl x3), none, some (y_bi x5), none, none, none, none, none, none, none, none, none, none, none] [] m = y_g (0 ≤ x5 ∧ x5 < (12 : Int)) (y_bI (y_V sp ph d 211 [y_bo 11 0 a0, y_bi (y_mI m 94 0), y_bi (y_mI m 94 x5.toNat)] m) (fun v1 m1 => y_g (0 ≤ x5 ∧ x5 < (12 : Int)) (y_R sp ph d 254 156 [some (y_bo 11 0 a0), none, some (y_bi x2), some (y_bl x3), none, none, some (y_bi (z_ishl 1 (x5 - 1))), some (y_bi x5), some (y_bi v1), some (y_bi v1), some (y_bi 2), none, none, none, none, none, none] [] (y_sI (y_sI m1 97 0 (y_mI m1 94 0)) 97 1 (y_mI (y_sI m1 97 0 (y_mI m1 94 0)) 94 x5.toNat)))) (fun e m1 => y_px e m1)) := by
  rw [y_R_eq (md := z_md_254) rfl rfl]
  exact (y_gc (y_bIc fun v1 m1 => (y_sh (L' := [some (y_bo 11 0 a0), none, some (y_bi x2), some (y_bl x3), none, some (y_bi x5), some (y_bi (z_ishl 1 (x5 - 1))), some (y_bi x5), none, none, none, none, none, none, none, none, none]) (S' := [y_bi v1]) rfl rfl rfl)))
set_option maxRecDepth 4000 in
theorem y_E_254_156 (d : Nat) (a0 : Nat) (x2 : Int) (x3 : Int) (x6 : Int) (x7 : Int) (x8 : Int) (x9 : Int) (x10 : Int) (m : y_m) : y_R sp ph d 254 156 [some (y_bo 11 0 a0), none, some (y_bi x2), some (y_bl x3), none, none, some (y_bi x6), some (y_bi x7), some (y_bi x8), some (y_bi x9), some (y_bi x10), none, none, none, none, none, none] [] m = if z_w (y_mI m a0 33) ≤ z_w x10 then y_R sp ph d 254 303 [none, none, none, some (y_bl x3), none, none, none, none, none, none, none, none, none, none, none, none, none] [] m else y_R sp ph d 254 176 [some (y_bo 11 0 a0), none, some (y_bi x2), some (y_bl x3), none, none, some (y_bi x6), some (y_bi x7), some (y_bi x8), some (y_bi x9), some (y_bi x10), some (y_bi 0), some (y_bl (-1)), none, some (y_bi 1), none, none] [] m := (y_R_eq (md := z_md_254) rfl rfl).trans rfl
set_option maxRecDepth 4000 in
theorem y_E_254_176 (d : Nat) (a0 : Nat) (x2 : Int) (x3 : Int) (x6 : Int) (x7 : Int) (x8 : Int) (x9 : Int) (x10 : Int) (x11 : Int) (x12 : Int) (x14 : Int) (m : y_m) : y_R sp ph d 254 176 [some (y_bo 11 0 a0), none, some (y_bi x2), some (y_bl x3), none, none, some (y_bi x6), some (y_bi x7), some (y_bi x8), some (y_bi x9), some (y_bi x10), some (y_bi x11), some (y_bl x12), none, some (y_bi x14), none, none] [] m = if z_w (y_mI m a0 33) ≤ z_w x14 then y_R sp ph d 254 248 [some (y_bo 11 0 a0), none, some (y_bi x2), some (y_bl x3), none, none, some (y_bi x6), some (y_bi x7), none, some (y_bi x9), some (y_bi x10), some (y_bi x11), none, none, none, none, none] [] m else y_bL (y_V sp ph d 252 [y_bo 11 0 a0, y_bi x6, y_bi x7, y_bi x8, y_bi x9, y_bi x14] m) (fun v1 m1 => if z_w (z_lcmp v1 (-1)) = 0 then y_R sp ph d 254 242 [some (y_bo 11 0 a0), none, some (y_bi x2), some (y_bl x3), none, none, some (y_bi x6), some (y_bi x7), some (y_bi x8), some (y_bi x9), some (y_bi x10), some (y_bi x11), some (y_bl x12), none, some (y_bi x14), none, none] [] m1 else if z_w (z_lcmp x12 (-1)) = 0 then y_R sp ph d 254 234 [some (y_bo 11 0 a0), none, some (y_bi x2), some (y_bl x3), none, none, some (y_bi x6), some (y_bi x7), some (y_bi x8), some (y_bi x9), some (y_bi x10), none, none, none, some (y_bi x14), some (y_bl v1), none] [] m1 else y_bI (y_V sp ph d 219 [y_bo 11 0 a0, y_bl v1, y_bl x12, y_bi x2] m1) (fun v2 m2 => if ¬ z_w v2 = 0 then y_R sp ph d 254 234 [some (y_bo 11 0 a0), none, some (y_bi x2), some (y_bl x3), none, none, some (y_bi x6), some (y_bi x7), some (y_bi x8), some (y_bi x9), some (y_bi x10), none, none, none, some (y_bi x14), some (y_bl v1), none] [] m2 else y_R sp ph d 254 242 [some (y_bo 11 0 a0), none, some (y_bi x2), some (y_bl x3), none, none, some (y_bi x6), some (y_bi x7), some (y_bi x8), some (y_bi x9), some (y_bi x10), some (y_bi x11), some (y_bl x12), none, some (y_bi x14), none, none] [] m2) (fun e m1 => y_px e m1)) (fun e m1 => y_px e m1) := by
  rw [y_R_eq (md := z_md_254) rfl rfl]
  exact (y_ic rfl (y_bLc fun v1 m1 => (y_sh (L' := [some (y_bo 11 0 a0), none, some (y_bi x2), some (y_bl x3), none, none, some (y_bi x6), some (y_bi x7), some (y_bi x8), some (y_bi x9), some (y_bi x10), some (y_bi x11), some (y_bl x12), none, some (y_bi x14), none, none]) (S' := [y_bl v1]) rfl rfl (y_ic rfl (y_ic rfl (y_bIc fun v2 m2 => (y_sh (L' := [some (y_bo 11 0 a0), none, some (y_bi x2), some (y_bl x3), none, none, some (y_bi x6), some (y_bi x7), some (y_bi x8), some (y_bi x9), some (y_bi x10), some (y_bi x11), some (y_bl x12), none, some (y_bi x14), some (y_bl v1), none]) (S' := [y_bi v2]) rfl rfl rfl)))))))
set_option maxRecDepth 4000 in
theorem y_E_254_234 (d : Nat) (a0 : Nat) (x2 : Int) (x3 : Int) (x6 : Int) (x7 : Int) (x8 : Int) (x9 : Int) (x10 : Int) (x14 : Int) (x15 : Int) (m : y_m) : y_R sp ph d 254 234 [some (y_bo 11 0 a0), none, some (y_bi x2), some (y_bl x3), none, none, some (y_bi x6), some (y_bi x7), some (y_bi x8), some (y_bi x9), some (y_bi x10), none, none, none, some (y_bi x14), some (y_bl x15), none] [] m = y_R sp ph d 254 242 [some (y_bo 11 0 a0), none, some (y_bi x2), some (y_bl x3), none, none, some (y_bi x6), some (y_bi x7), some (y_bi x8), some (y_bi x9), some (y_bi x10), some (y_bi x14), some (y_bl x15), none, some (y_bi x14), none, none] [] m := (y_R_eq (md := z_md_254) rfl rfl).trans rfl
set_option maxRecDepth 4000 in
theorem y_E_254_242 (d : Nat) (a0 : Nat) (x2 : Int) (x3 : Int) (x6 : Int) (x7 : Int) (x8 : Int) (x9 : Int) (x10 : Int) (x11 : Int) (x12 : Int) (x14 : Int) (m : y_m) : y_R sp ph d 254 242 [some (y_bo 11 0 a0), none, some (y_bi x2), some (y_bl x3), none, none, some (y_bi x6), some (y_bi x7), some (y_bi x8), some (y_bi x9), some (y_bi x10), some (y_bi x11), some (y_bl x12), none, some (y_bi x14), none, none] [] m = y_R sp ph d 254 176 [some (y_bo 11 0 a0), none, some (y_bi x2), some (y_bl x3), none, none, some (y_bi x6), some (y_bi x7), some (y_bi x8), some (y_bi x9), some (y_bi x10), some (y_bi x11), some (y_bl x12), none, some (y_bi (x14 + 1)), none, none] [] m := (y_R_eq (md := z_md_254) rfl rfl).trans rfl
set_option maxRecDepth 4000 in
theorem y_E_254_248 (d : Nat) (a0 : Nat) (x2 : Int) (x3 : Int) (x6 : Int) (x7 : Int) (x9 : Int) (x10 : Int) (x11 : Int) (m : y_m) : y_R sp ph d 254 248 [some (y_bo 11 0 a0), none, some (y_bi x2), some (y_bl x3), none, none, some (y_bi x6), some (y_bi x7), none, some (y_bi x9), some (y_bi x10), some (y_bi x11), none, none, none, none, none] [] m = y_g (0 ≤ x7 ∧ x7 < (12 : Int)) (y_g (0 ≤ x11 ∧ x11 < (12 : Int)) (y_bI (y_V sp ph d 211 [y_bo 11 0 a0, y_bi (y_mI m 94 x7.toNat), y_bi (y_mI m 94 x11.toNat)] m) (fun v1 m1 => y_g (0 ≤ x11 ∧ x11 < (12 : Int)) (y_g (0 ≤ x10 ∧ x10 < (12 : Int)) (y_R sp ph d 254 156 [some (y_bo 11 0 a0), none, some (y_bi x2), some (y_bl x3), none, none, some (y_bi (z_ior x6 (z_ishl 1 (x11 - 1)))), some (y_bi x11), some (y_bi v1), some (y_bi x9), some (y_bi (x10 + 1)), none, none, none, none, none, none] [] (y_sI m1 97 x10.toNat (y_mI m1 94 x11.toNat))))) (fun e m1 => y_px e m1))) := by
  rw [y_R_eq (md := z_md_254) rfl rfl]
  exact (y_gc (y_gc (y_bIc fun v1 m1 => (y_sh (L' := [some (y_bo 11 0 a0), none, some (y_bi x2), some (y_bl x3), none, none, some (y_bi x6), some (y_bi x7), none, some (y_bi x9), some (y_bi x10), some (y_bi x11), none, none, none, none, none]) (S' := [y_bi v1]) rfl rfl rfl))))
set_option maxRecDepth 4000 in
theorem y_E_254_303 (d : Nat) (x3 : Int) (m : y_m) : y_R sp ph d 254 303 [none, none, none, some (y_bl x3), none, none, none, none, none, none, none, none, none, none, none, none, none] [] m = y_rL x3 m := (y_R_eq (md := z_md_254) rfl rfl).trans rfl
set_option maxRecDepth 4000 in
theorem y_C_254 (d : Nat) (a0 : Nat) (x1 : Int) (x2 : Int) (m : y_m) : y_V sp ph (d + 1) 254 [y_bo 11 0 a0, y_bi x1, y_bi x2] m = y_R sp ph d 254 0 [some (y_bo 11 0 a0), some (y_bi x1), some (y_bi x2), none, none, none, none, none, none, none, none, none, none, none, none, none, none] [] m := (y_V_eq (md := z_md_254) rfl rfl rfl).trans rfl
/-! LacedHolesModel.best (II)I -/
set_option maxRecDepth 4000 in
theorem y_E_255_0 (d : Nat) (a0 : Nat) (x1 : Int) (x2 : Int) (m : y_m) : y_R sp ph d 255 0 [some (y_bo 11 0 a0), some (y_bi x1), some (y_bi x2), none, none] [] m = y_bI (y_V sp ph d 241 [y_bo 11 0 a0, y_bi x1] (y_sI m a0 0 0)) (fun v1 m1 => if z_w v1 = 0 then y_R sp ph d 255 23 [some (y_bo 11 0 a0), some (y_bi x1), some (y_bi x2), none, none] [y_bo 11 0 a0] m1 else y_bI (y_V sp ph d 180 [y_bi x2, y_bi 0, y_bi 2] m1) (fun v2 m2 => if ¬ z_w v2 = 0 then y_R sp ph d 255 27 [some (y_bo 11 0 a0), some (y_bi x1), some (y_bi x2), none, none] [y_bo 11 0 a0] m2 else y_R sp ph d 255 23 [some (y_bo 11 0 a0), some (y_bi x1), some (y_bi x2), none, none] [y_bo 11 0 a0] m2) (fun e m1 => y_px e m1)) (fun e m1 => y_px e m1) := by
  rw [y_R_eq (md := z_md_255) rfl rfl]
  exact (y_bIc fun v1 m1 => (y_sh (L' := [some (y_bo 11 0 a0), some (y_bi x1), some (y_bi x2), none, none]) (S' := [y_bi v1, y_bo 11 0 a0]) rfl rfl (y_ic rfl (y_bIc fun v2 m2 => (y_sh (L' := [some (y_bo 11 0 a0), some (y_bi x1), some (y_bi x2), none, none]) (S' := [y_bi v2, y_bo 11 0 a0]) rfl rfl rfl)))))
set_option maxRecDepth 4000 in
theorem y_E_255_23 (d : Nat) (a0 : Nat) (x1 : Int) (x2 : Int) (as0 : Nat) (m : y_m) : y_R sp ph d 255 23 [some (y_bo 11 0 a0), some (y_bi x1), some (y_bi x2), none, none] [y_bo 11 0 as0] m = y_R sp ph d 255 28 [some (y_bo 11 0 a0), some (y_bi x1), some (y_bi x2), none, none] [y_bi 1, y_bo 11 0 as0] m := (y_R_eq (md := z_md_255) rfl rfl).trans rfl
set_option maxRecDepth 4000 in
theorem y_E_255_27 (d : Nat) (a0 : Nat) (x1 : Int) (x2 : Int) (as0 : Nat) (m : y_m) : y_R sp ph d 255 27 [some (y_bo 11 0 a0), some (y_bi x1), some (y_bi x2), none, none] [y_bo 11 0 as0] m = y_R sp ph d 255 28 [some (y_bo 11 0 a0), some (y_bi x1), some (y_bi x2), none, none] [y_bi 0, y_bo 11 0 as0] m := (y_R_eq (md := z_md_255) rfl rfl).trans rfl
set_option maxRecDepth 4000 in
theorem y_E_255_28 (d : Nat) (a0 : Nat) (x1 : Int) (x2 : Int) (xs0 : Int) (as1 : Nat) (m : y_m) : y_R sp ph d 255 28 [some (y_bo 11 0 a0), some (y_bi x1), some (y_bi x2), none, none] [y_bi xs0, y_bo 11 0 as1] m = y_bI (y_V sp ph d 179 [y_bo 11 0 as1, y_bi xs0, y_bi 1] m) (fun v1 m1 => if z_w v1 = 0 then y_R sp ph d 255 37 [some (y_bo 11 0 a0), some (y_bi x1), some (y_bi x2), none, none] [] m1 else y_rI 0 m1) (fun e m1 => y_px e m1) := by
  rw [y_R_eq (md := z_md_255) rfl rfl]
  exact (y_bIc fun v1 m1 => (y_sh (L' := [some (y_bo 11 0 a0), some (y_bi x1), some (y_bi x2), none, none]) (S' := [y_bi v1]) rfl rfl rfl))
set_option maxRecDepth 4000 in
theorem y_E_255_37 (d : Nat) (a0 : Nat) (x1 : Int) (x2 : Int) (m : y_m) : y_R sp ph d 255 37 [some (y_bo 11 0 a0), some (y_bi x1), some (y_bi x2), none, none] [] m = y_bL (y_V sp ph d 254 [y_bo 11 0 a0, y_bi x1, y_bi x2] m) (fun v1 m1 => if ¬ z_w (z_lcmp v1 (-1)) = 0 then y_R sp ph d 255 54 [some (y_bo 11 0 a0), none, some (y_bi x2), some (y_bl v1), none] [] m1 else y_rI (-1) m1) (fun e m1 => y_px e m1) := by
  rw [y_R_eq (md := z_md_255) rfl rfl]
  exact (y_bLc fun v1 m1 => (y_sh (L' := [some (y_bo 11 0 a0), some (y_bi x1), some (y_bi x2), none, none]) (S' := [y_bl v1]) rfl rfl rfl))
set_option maxRecDepth 4000 in
theorem y_E_255_54 (d : Nat) (a0 : Nat) (x2 : Int) (x3 : Int) (m : y_m) : y_R sp ph d 255 54 [some (y_bo 11 0 a0), none, some (y_bi x2), some (y_bl x3), none] [] m = y_bV (y_V sp ph d 196 [y_bo 11 0 a0, y_bo 100 12 97, y_bi (y_mI m a0 33)] m) (fun m1 => if ¬ z_w x2 = 2 then y_R sp ph d 255 77 [none, none, none, none, none] [y_bl x3, y_bo 11 0 a0] m1 else y_R sp ph d 255 78 [none, none, none, none, none] [y_bi 1, y_bl x3, y_bo 11 0 a0] m1) (fun e m1 => y_px e m1) := by
  rw [y_R_eq (md := z_md_255) rfl rfl]
  exact (y_bVc fun m1 => (y_sh (L' := [some (y_bo 11 0 a0), none, some (y_bi x2), some (y_bl x3), none]) (S' := []) rfl rfl rfl))
set_option maxRecDepth 4000 in
theorem y_E_255_77 (d : Nat) (xs0 : Int) (as1 : Nat) (m : y_m) : y_R sp ph d 255 77 [none, none, none, none, none] [y_bl xs0, y_bo 11 0 as1] m = y_R sp ph d 255 78 [none, none, none, none, none] [y_bi 0, y_bl xs0, y_bo 11 0 as1] m := (y_R_eq (md := z_md_255) rfl rfl).trans rfl
set_option maxRecDepth 4000 in
theorem y_E_255_78 (d : Nat) (xs0 : Int) (xs1 : Int) (as2 : Nat) (m : y_m) : y_R sp ph d 255 78 [none, none, none, none, none] [y_bi xs0, y_bl xs1, y_bo 11 0 as2] m = y_bI (y_V sp ph d 221 [y_bo 11 0 as2, y_bl xs1, y_bi xs0] m) (fun v1 m1 => y_rI v1 m1) (fun e m1 => y_px e m1) := by
  rw [y_R_eq (md := z_md_255) rfl rfl]
  exact (y_bIc fun v1 m1 => (y_sh (L' := [none, none, none, none, none]) (S' := [y_bi v1]) rfl rfl rfl))
set_option maxRecDepth 4000 in
theorem y_C_255 (d : Nat) (a0 : Nat) (x1 : Int) (x2 : Int) (m : y_m) : y_V sp ph (d + 1) 255 [y_bo 11 0 a0, y_bi x1, y_bi x2] m = y_R sp ph d 255 0 [some (y_bo 11 0 a0), some (y_bi x1), some (y_bi x2), none, none] [] m := (y_V_eq (md := z_md_255) rfl rfl rfl).trans rfl
/-! LacedHolesModel.against ()I -/
set_option maxRecDepth 4000 in
theorem y_E_256_0 (d : Nat) (a0 : Nat) (m : y_m) : y_R sp ph d 256 0 [some (y_bo 11 0 a0), none, none, none] [] m = y_bI (y_V sp ph d 230 [y_bo 11 0 a0] (y_sI m a0 0 0)) (fun v1 m1 => if z_w v1 = 0 then y_R sp ph d 256 14 [some (y_bo 11 0 a0), none, none, none] [] m1 else y_rI 0 m1) (fun e m1 => y_px e m1) := by
  rw [y_R_eq (md := z_md_256) rfl rfl]
  exact (y_bIc fun v1 m1 => (y_sh (L' := [some (y_bo 11 0 a0), none, none, none]) (S' := [y_bi v1]) rfl rfl rfl))
set_option maxRecDepth 4000 in
theorem y_E_256_14 (d : Nat) (a0 : Nat) (m : y_m) : y_R sp ph d 256 14 [some (y_bo 11 0 a0), none, none, none] [] m = y_bI (y_V sp ph d 246 [y_bo 11 0 a0] m) (fun v1 m1 => y_bL (y_V sp ph d 254 [y_bo 11 0 a0, y_bi v1, y_bi 0] m1) (fun v2 m2 => if ¬ z_w (z_lcmp v2 (-1)) = 0 then y_R sp ph d 256 34 [some (y_bo 11 0 a0), some (y_bl v2), none, none] [] m2 else y_rI (-1) m2) (fun e m1 => y_px e m1)) (fun e m1 => y_px e m1) := by
  rw [y_R_eq (md := z_md_256) rfl rfl]
  exact (y_bIc fun v1 m1 => (y_sh (L' := [some (y_bo 11 0 a0), none, none, none]) (S' := [y_bi v1, y_bo 11 0 a0]) rfl rfl (y_bLc fun v2 m2 => (y_sh (L' := [some (y_bo 11 0 a0), none, none, none]) (S' := [y_bl v2]) rfl rfl rfl))))
set_option maxRecDepth 4000 in
theorem y_E_256_34 (d : Nat) (a0 : Nat) (x1 : Int) (m : y_m) : y_R sp ph d 256 34 [some (y_bo 11 0 a0), some (y_bl x1), none, none] [] m = y_bL (y_V sp ph d 232 [y_bo 11 0 a0] m) (fun v1 m1 => y_bI (y_V sp ph d 218 [y_bo 11 0 a0, y_bl v1, y_bl x1, y_bi 0] m1) (fun v2 m2 => if 0 ≤ z_w v2 then y_R sp ph d 256 54 [none, none, none, some (y_bi v2)] [] m2 else y_R sp ph d 256 55 [none, none, none, none] [y_bi (-2)] m2) (fun e m1 => y_px e m1)) (fun e m1 => y_px e m1) := by
  rw [y_R_eq (md := z_md_256) rfl rfl]
  exact (y_bLc fun v1 m1 => (y_sh (L' := [some (y_bo 11 0 a0), some (y_bl x1), none, none]) (S' := [y_bl v1, y_bo 11 0 a0]) rfl rfl (y_bIc fun v2 m2 => (y_sh (L' := [some (y_bo 11 0 a0), some (y_bl x1), none, none]) (S' := [y_bi v2]) rfl rfl rfl))))
set_option maxRecDepth 4000 in
theorem y_E_256_54 (d : Nat) (x3 : Int) (m : y_m) : y_R sp ph d 256 54 [none, none, none, some (y_bi x3)] [] m = y_R sp ph d 256 55 [none, none, none, none] [y_bi x3] m := (y_R_eq (md := z_md_256) rfl rfl).trans rfl
set_option maxRecDepth 4000 in
theorem y_E_256_55 (d : Nat) (xs0 : Int) (m : y_m) : y_R sp ph d 256 55 [none, none, none, none] [y_bi xs0] m = y_rI xs0 m := (y_R_eq (md := z_md_256) rfl rfl).trans rfl
set_option maxRecDepth 4000 in
theorem y_C_256 (d : Nat) (a0 : Nat) (m : y_m) : y_V sp ph (d + 1) 256 [y_bo 11 0 a0] m = y_R sp ph d 256 0 [some (y_bo 11 0 a0), none, none, none] [] m := (y_V_eq (md := z_md_256) rfl rfl rfl).trans rfl
/-! LacedHolesModel.least (I)I -/
set_option maxRecDepth 4000 in
theorem y_E_257_0 (d : Nat) (x0 : Int) (m : y_m) : y_R sp ph d 257 0 [some (y_bi x0), none] [] m = y_R sp ph d 257 2 [some (y_bi x0), some (y_bi 0)] [] m := (y_R_eq (md := z_md_257) rfl rfl).trans rfl
set_option maxRecDepth 4000 in
theorem y_E_257_2 (d : Nat) (x0 : Int) (x1 : Int) (m : y_m) : y_R sp ph d 257 2 [some (y_bi x0), some (y_bi x1)] [] m = if ¬ z_w (z_iand (z_ishr x0 x1) 1) = 0 then y_R sp ph d 257 16 [none, some (y_bi x1)] [] m else y_R sp ph d 257 2 [some (y_bi x0), some (y_bi (x1 + 1))] [] m := (y_R_eq (md := z_md_257) rfl rfl).trans rfl
set_option maxRecDepth 4000 in
theorem y_E_257_16 (d : Nat) (x1 : Int) (m : y_m) : y_R sp ph d 257 16 [none, some (y_bi x1)] [] m = y_rI x1 m := (y_R_eq (md := z_md_257) rfl rfl).trans rfl
set_option maxRecDepth 4000 in
theorem y_C_257 (d : Nat) (x0 : Int) (m : y_m) : y_V sp ph (d + 1) 257 [y_bi x0] m = y_R sp ph d 257 0 [some (y_bi x0), none] [] m := (y_V_eq (md := z_md_257) rfl rfl rfl).trans rfl
/-! LacedHolesModel.step (IIZZ)I -/
set_option maxRecDepth 4000 in
theorem y_E_258_0 (d : Nat) (x0 : Int) (x1 : Int) (x2 : Int) (x3 : Int) (m : y_m) : y_R sp ph d 258 0 [some (y_bi x0), some (y_bi x1), some (y_bi x2), some (y_bi x3)] [] m = if z_w x2 = 0 then y_R sp ph d 258 16 [none, none, none, some (y_bi x3)] [y_bi (((x0 * 12) + x1) * 4)] m else y_R sp ph d 258 17 [none, none, none, some (y_bi x3)] [y_bi 2, y_bi (((x0 * 12) + x1) * 4)] m := (y_R_eq (md := z_md_258) rfl rfl).trans rfl
set_option maxRecDepth 4000 in
theorem y_E_258_16 (d : Nat) (x3 : Int) (xs0 : Int) (m : y_m) : y_R sp ph d 258 16 [none, none, none, some (y_bi x3)] [y_bi xs0] m = y_R sp ph d 258 17 [none, none, none, some (y_bi x3)] [y_bi 0, y_bi xs0] m := (y_R_eq (md := z_md_258) rfl rfl).trans rfl
set_option maxRecDepth 4000 in
theorem y_E_258_17 (d : Nat) (x3 : Int) (xs0 : Int) (xs1 : Int) (m : y_m) : y_R sp ph d 258 17 [none, none, none, some (y_bi x3)] [y_bi xs0, y_bi xs1] m = if z_w x3 = 0 then y_R sp ph d 258 26 [none, none, none, none] [y_bi (xs1 + xs0)] m else y_R sp ph d 258 27 [none, none, none, none] [y_bi 1, y_bi (xs1 + xs0)] m := (y_R_eq (md := z_md_258) rfl rfl).trans rfl
set_option maxRecDepth 4000 in
theorem y_E_258_26 (d : Nat) (xs0 : Int) (m : y_m) : y_R sp ph d 258 26 [none, none, none, none] [y_bi xs0] m = y_R sp ph d 258 27 [none, none, none, none] [y_bi 0, y_bi xs0] m := (y_R_eq (md := z_md_258) rfl rfl).trans rfl
set_option maxRecDepth 4000 in
theorem y_E_258_27 (d : Nat) (xs0 : Int) (xs1 : Int) (m : y_m) : y_R sp ph d 258 27 [none, none, none, none] [y_bi xs0, y_bi xs1] m = y_rI (xs1 + xs0) m := (y_R_eq (md := z_md_258) rfl rfl).trans rfl
set_option maxRecDepth 4000 in
theorem y_C_258 (d : Nat) (x0 : Int) (x1 : Int) (x2 : Int) (x3 : Int) (m : y_m) : y_V sp ph (d + 1) 258 [y_bi x0, y_bi x1, y_bi x2, y_bi x3] m = y_R sp ph d 258 0 [some (y_bi x0), some (y_bi x1), some (y_bi x2), some (y_bi x3)] [] m := (y_V_eq (md := z_md_258) rfl rfl rfl).trans rfl
/-! LacedHolesModel.shortens (IJ)V -/
set_option maxRecDepth 4000 in
theorem y_E_259_0 (d : Nat) (a0 : Nat) (x1 : Int) (x2 : Int) (m : y_m) : y_R sp ph d 259 0 [some (y_bo 11 0 a0), some (y_bi x1), some (y_bl x2), none] [] m = y_g (0 ≤ x1 ∧ x1 < (196608 : Int)) (if z_w (z_lcmp (y_mJ m 99 x1.toNat) (-1)) = 0 then y_R sp ph d 259 28 [some (y_bo 11 0 a0), some (y_bi x1), some (y_bl x2), none] [] m else y_g (0 ≤ x1 ∧ x1 < (196608 : Int)) (y_bI (y_V sp ph d 219 [y_bo 11 0 a0, y_bl x2, y_bl (y_mJ m 99 x1.toNat), y_bi 0] m) (fun v1 m1 => if z_w v1 = 0 then y_R sp ph d 259 35 [none, none, none, none] [] m1 else y_R sp ph d 259 28 [some (y_bo 11 0 a0), some (y_bi x1), some (y_bl x2), none] [] m1) (fun e m1 => y_px e m1))) := by
  rw [y_R_eq (md := z_md_259) rfl rfl]
  exact (y_gc (y_ic rfl (y_gc (y_bIc fun v1 m1 => (y_sh (L' := [some (y_bo 11 0 a0), some (y_bi x1), some (y_bl x2), none]) (S' := [y_bi v1]) rfl rfl rfl)))))
set_option maxRecDepth 4000 in
theorem y_E_259_28 (d : Nat) (a0 : Nat) (x1 : Int) (x2 : Int) (m : y_m) : y_R sp ph d 259 28 [some (y_bo 11 0 a0), some (y_bi x1), some (y_bl x2), none] [] m = y_g (0 ≤ x1 ∧ x1 < (196608 : Int)) (y_R sp ph d 259 35 [none, none, none, none] [] (y_sJ m 99 x1.toNat x2)) := (y_R_eq (md := z_md_259) rfl rfl).trans rfl
set_option maxRecDepth 4000 in
theorem y_E_259_35 (d : Nat) (m : y_m) : y_R sp ph d 259 35 [none, none, none, none] [] m = y_rV m := (y_R_eq (md := z_md_259) rfl rfl).trans rfl
set_option maxRecDepth 4000 in
theorem y_C_259 (d : Nat) (a0 : Nat) (x1 : Int) (x2 : Int) (m : y_m) : y_V sp ph (d + 1) 259 [y_bo 11 0 a0, y_bi x1, y_bl x2] m = y_R sp ph d 259 0 [some (y_bo 11 0 a0), some (y_bi x1), some (y_bl x2), none] [] m := (y_V_eq (md := z_md_259) rfl rfl rfl).trans rfl
/-! LacedHolesModel.laysHome ()V -/
set_option maxRecDepth 4000 in
theorem y_E_260_0 (d : Nat) (a0 : Nat) (m : y_m) : y_R sp ph d 260 0 [some (y_bo 11 0 a0), none, none, none, none, none, none] [] m = y_bI (y_V sp ph d 200 [y_bo 11 0 a0] m) (fun v1 m1 => y_bI (y_V sp ph d 199 [y_bo 11 0 a0] m1) (fun v2 m2 => y_R sp ph d 260 12 [some (y_bo 11 0 a0), some (y_bi v1), some (y_bi v2), some (y_bi 0), none, none, none] [] m2) (fun e m1 => y_px e m1)) (fun e m1 => y_px e m1) := by
  rw [y_R_eq (md := z_md_260) rfl rfl]
  exact (y_bIc fun v1 m1 => (y_sh (L' := [some (y_bo 11 0 a0), none, none, none, none, none, none]) (S' := [y_bi v1]) rfl rfl (y_bIc fun v2 m2 => (y_sh (L' := [some (y_bo 11 0 a0), some (y_bi v1), none, none, none, none, none]) (S' := [y_bi v2]) rfl rfl rfl))))
set_option maxRecDepth 4000 in
theorem y_E_260_12 (d : Nat) (a0 : Nat) (x1 : Int) (x2 : Int) (x3 : Int) (m : y_m) : y_R sp ph d 260 12 [some (y_bo 11 0 a0), some (y_bi x1), some (y_bi x2), some (y_bi x3), none, none, none] [] m = if z_w (196608 : Int) ≤ z_w x3 then y_R sp ph d 260 36 [some (y_bo 11 0 a0), some (y_bi x1), some (y_bi x2), none, none, none, none] [] m else y_g (0 ≤ x3 ∧ x3 < (196608 : Int)) (y_R sp ph d 260 12 [some (y_bo 11 0 a0), some (y_bi x1), some (y_bi x2), some (y_bi (x3 + 1)), none, none, none] [] (y_sJ m 99 x3.toNat (-1))) := (y_R_eq (md := z_md_260) rfl rfl).trans rfl
set_option maxRecDepth 4000 in
theorem y_E_260_36 (d : Nat) (a0 : Nat) (x1 : Int) (x2 : Int) (m : y_m) : y_R sp ph d 260 36 [some (y_bo 11 0 a0), some (y_bi x1), some (y_bi x2), none, none, none, none] [] m = y_R sp ph d 260 38 [some (y_bo 11 0 a0), some (y_bi x1), some (y_bi x2), some (y_bi 0), none, none, none] [] m := (y_R_eq (md := z_md_260) rfl rfl).trans rfl
set_option maxRecDepth 4000 in
theorem y_E_260_38 (d : Nat) (a0 : Nat) (x1 : Int) (x2 : Int) (x3 : Int) (m : y_m) : y_R sp ph d 260 38 [some (y_bo 11 0 a0), some (y_bi x1), some (y_bi x2), some (y_bi x3), none, none, none] [] m = if 4096 ≤ z_w x3 then y_R sp ph d 260 267 [none, none, none, none, none, none, none] [] m else y_g (0 ≤ x3 ∧ x3 < (4096 : Int)) (if z_w x3 = 0 then y_R sp ph d 260 261 [some (y_bo 11 0 a0), some (y_bi x1), some (y_bi x2), some (y_bi x3), none, none, none] [] (y_sJ m 100 x3.toNat (-1)) else if z_w (z_iand x3 (z_ixor x1 (-1))) = 0 then y_R sp ph d 260 69 [some (y_bo 11 0 a0), some (y_bi x1), some (y_bi x2), some (y_bi x3), none, none, none] [] (y_sJ m 100 x3.toNat (-1)) else y_R sp ph d 260 261 [some (y_bo 11 0 a0), some (y_bi x1), some (y_bi x2), some (y_bi x3), none, none, none] [] (y_sJ m 100 x3.toNat (-1))) := (y_R_eq (md := z_md_260) rfl rfl).trans rfl
set_option maxRecDepth 4000 in
theorem y_E_260_69 (d : Nat) (a0 : Nat) (x1 : Int) (x2 : Int) (x3 : Int) (m : y_m) : y_R sp ph d 260 69 [some (y_bo 11 0 a0), some (y_bi x1), some (y_bi x2), some (y_bi x3), none, none, none] [] m = y_bI (y_V sp ph d 257 [y_bi x3] m) (fun v1 m1 => y_bI (y_V sp ph d 201 [y_bi x3] m1) (fun v2 m2 => if ¬ z_w v2 = 1 then y_R sp ph d 260 152 [some (y_bo 11 0 a0), some (y_bi x1), some (y_bi x2), some (y_bi x3), some (y_bi v1), none, none] [] m2 else y_R sp ph d 260 89 [some (y_bo 11 0 a0), some (y_bi x1), some (y_bi x2), some (y_bi x3), some (y_bi v1), some (y_bi (v1 + 1)), none] [] m2) (fun e m1 => y_px e m1)) (fun e m1 => y_px e m1) := by
  rw [y_R_eq (md := z_md_260) rfl rfl]
  exact (y_bIc fun v1 m1 => (y_sh (L' := [some (y_bo 11 0 a0), some (y_bi x1), some (y_bi x2), some (y_bi x3), none, none, none]) (S' := [y_bi v1]) rfl rfl (y_bIc fun v2 m2 => (y_sh (L' := [some (y_bo 11 0 a0), some (y_bi x1), some (y_bi x2), some (y_bi x3), some (y_bi v1), none, none]) (S' := [y_bi v2]) rfl rfl rfl))))
set_option maxRecDepth 4000 in
theorem y_E_260_89 (d : Nat) (a0 : Nat) (x1 : Int) (x2 : Int) (x3 : Int) (x4 : Int) (x5 : Int) (m : y_m) : y_R sp ph d 260 89 [some (y_bo 11 0 a0), some (y_bi x1), some (y_bi x2), some (y_bi x3), some (y_bi x4), some (y_bi x5), none] [] m = if z_w x2 ≤ z_w x5 then y_R sp ph d 260 149 [some (y_bo 11 0 a0), some (y_bi x1), some (y_bi x2), some (y_bi x3), none, none, none] [] m else y_bI (y_V sp ph d 211 [y_bo 11 0 a0, y_bi x4, y_bi x5] m) (fun v1 m1 => if ¬ z_w (z_iand (z_ishr x1 x5) 1) = 1 then y_R sp ph d 260 143 [some (y_bo 11 0 a0), some (y_bi x1), some (y_bi x2), some (y_bi x3), some (y_bi x4), some (y_bi x5), none] [] m1 else y_bI (y_V sp ph d 258 [y_bi (z_ior x3 (z_ishl 1 x5)), y_bi x5, y_bi v1, y_bi v1] m1) (fun v2 m2 => y_bL (y_V sp ph d 212 [y_bo 11 0 a0, y_bi x4, y_bi x5] m2) (fun v3 m3 => y_g (0 ≤ v2 ∧ v2 < (196608 : Int)) (y_R sp ph d 260 143 [some (y_bo 11 0 a0), some (y_bi x1), some (y_bi x2), some (y_bi x3), some (y_bi x4), some (y_bi x5), none] [] (y_sJ m3 99 v2.toNat v3))) (fun e m1 => y_px e m1)) (fun e m1 => y_px e m1)) (fun e m1 => y_px e m1) := by
  rw [y_R_eq (md := z_md_260) rfl rfl]
  exact (y_ic rfl (y_bIc fun v1 m1 => (y_sh (L' := [some (y_bo 11 0 a0), some (y_bi x1), some (y_bi x2), some (y_bi x3), some (y_bi x4), some (y_bi x5), none]) (S' := [y_bi v1]) rfl rfl (y_ic rfl (y_bIc fun v2 m2 => (y_sh (L' := [some (y_bo 11 0 a0), some (y_bi x1), some (y_bi x2), some (y_bi x3), some (y_bi x4), some (y_bi x5), some (y_bi v1)]) (S' := [y_bi v2, y_bo 101 196608 99]) rfl rfl (y_bLc fun v3 m3 => (y_sh (L' := [some (y_bo 11 0 a0), some (y_bi x1), some (y_bi x2), some (y_bi x3), some (y_bi x4), some (y_bi x5), some (y_bi v1)]) (S' := [y_bl v3, y_bi v2, y_bo 101 196608 99]) rfl rfl rfl))))))))
set_option maxRecDepth 4000 in
theorem y_E_260_143 (d : Nat) (a0 : Nat) (x1 : Int) (x2 : Int) (x3 : Int) (x4 : Int) (x5 : Int) (m : y_m) : y_R sp ph d 260 143 [some (y_bo 11 0 a0), some (y_bi x1), some (y_bi x2), some (y_bi x3), some (y_bi x4), some (y_bi x5), none] [] m = y_R sp ph d 260 89 [some (y_bo 11 0 a0), some (y_bi x1), some (y_bi x2), some (y_bi x3), some (y_bi x4), some (y_bi (x5 + 1)), none] [] m := (y_R_eq (md := z_md_260) rfl rfl).trans rfl
set_option maxRecDepth 4000 in
theorem y_E_260_149 (d : Nat) (a0 : Nat) (x1 : Int) (x2 : Int) (x3 : Int) (m : y_m) : y_R sp ph d 260 149 [some (y_bo 11 0 a0), some (y_bi x1), some (y_bi x2), some (y_bi x3), none, none, none] [] m = y_R sp ph d 260 261 [some (y_bo 11 0 a0), some (y_bi x1), some (y_bi x2), some (y_bi x3), none, none, none] [] m := (y_R_eq (md := z_md_260) rfl rfl).trans rfl
set_option maxRecDepth 4000 in
theorem y_E_260_152 (d : Nat) (a0 : Nat) (x1 : Int) (x2 : Int) (x3 : Int) (x4 : Int) (m : y_m) : y_R sp ph d 260 152 [some (y_bo 11 0 a0), some (y_bi x1), some (y_bi x2), some (y_bi x3), some (y_bi x4), none, none] [] m = y_R sp ph d 260 158 [some (y_bo 11 0 a0), some (y_bi x1), some (y_bi x2), some (y_bi x3), some (y_bi x4), some (y_bi (x4 + 1)), none] [] m := (y_R_eq (md := z_md_260) rfl rfl).trans rfl
set_option maxRecDepth 4000 in
theorem y_E_260_158 (d : Nat) (a0 : Nat) (x1 : Int) (x2 : Int) (x3 : Int) (x4 : Int) (x5 : Int) (m : y_m) : y_R sp ph d 260 158 [some (y_bo 11 0 a0), some (y_bi x1), some (y_bi x2), some (y_bi x3), some (y_bi x4), some (y_bi x5), none] [] m = if z_w x2 ≤ z_w x5 then y_R sp ph d 260 261 [some (y_bo 11 0 a0), some (y_bi x1), some (y_bi x2), some (y_bi x3), none, none, none] [] m else y_R sp ph d 260 167 [some (y_bo 11 0 a0), some (y_bi x1), some (y_bi x2), some (y_bi x3), some (y_bi x4), some (y_bi x5), some (y_bi 0)] [] m := (y_R_eq (md := z_md_260) rfl rfl).trans rfl
set_option maxRecDepth 4000 in
theorem y_E_260_167 (d : Nat) (a0 : Nat) (x1 : Int) (x2 : Int) (x3 : Int) (x4 : Int) (x5 : Int) (x6 : Int) (m : y_m) : y_R sp ph d 260 167 [some (y_bo 11 0 a0), some (y_bi x1), some (y_bi x2), some (y_bi x3), some (y_bi x4), some (y_bi x5), some (y_bi x6)] [] m = if 4 ≤ z_w x6 then y_R sp ph d 260 255 [some (y_bo 11 0 a0), some (y_bi x1), some (y_bi x2), some (y_bi x3), some (y_bi x4), some (y_bi x5), none] [] m else if z_w x6 ≤ 1 then y_R sp ph d 260 190 [some (y_bo 11 0 a0), some (y_bi x1), some (y_bi x2), some (y_bi x3), some (y_bi x4), some (y_bi x5), some (y_bi x6)] [y_bi x5, y_bi x3, y_bo 101 196608 99] m else y_R sp ph d 260 191 [some (y_bo 11 0 a0), some (y_bi x1), some (y_bi x2), some (y_bi x3), some (y_bi x4), some (y_bi x5), some (y_bi x6)] [y_bi 1, y_bi x5, y_bi x3, y_bo 101 196608 99] m := (y_R_eq (md := z_md_260) rfl rfl).trans rfl
set_option maxRecDepth 4000 in
theorem y_E_260_190 (d : Nat) (a0 : Nat) (x1 : Int) (x2 : Int) (x3 : Int) (x4 : Int) (x5 : Int) (x6 : Int) (xs0 : Int) (xs1 : Int) (as2 : Nat) (m : y_m) : y_R sp ph d 260 190 [some (y_bo 11 0 a0), some (y_bi x1), some (y_bi x2), some (y_bi x3), some (y_bi x4), some (y_bi x5), some (y_bi x6)] [y_bi xs0, y_bi xs1, y_bo 101 196608 as2] m = y_R sp ph d 260 191 [some (y_bo 11 0 a0), some (y_bi x1), some (y_bi x2), some (y_bi x3), some (y_bi x4), some (y_bi x5), some (y_bi x6)] [y_bi 0, y_bi xs0, y_bi xs1, y_bo 101 196608 as2] m := (y_R_eq (md := z_md_260) rfl rfl).trans rfl
set_option maxRecDepth 4000 in
theorem y_E_260_191 (d : Nat) (a0 : Nat) (x1 : Int) (x2 : Int) (x3 : Int) (x4 : Int) (x5 : Int) (x6 : Int) (xs0 : Int) (xs1 : Int) (xs2 : Int) (as3 : Nat) (m : y_m) : y_R sp ph d 260 191 [some (y_bo 11 0 a0), some (y_bi x1), some (y_bi x2), some (y_bi x3), some (y_bi x4), some (y_bi x5), some (y_bi x6)] [y_bi xs0, y_bi xs1, y_bi xs2, y_bo 101 196608 as3] m = if ¬ z_w (z_irem x6 2) = 1 then y_R sp ph d 260 203 [some (y_bo 11 0 a0), some (y_bi x1), some (y_bi x2), some (y_bi x3), some (y_bi x4), some (y_bi x5), some (y_bi x6)] [y_bi xs0, y_bi xs1, y_bi xs2, y_bo 101 196608 as3] m else y_R sp ph d 260 204 [some (y_bo 11 0 a0), some (y_bi x1), some (y_bi x2), some (y_bi x3), some (y_bi x4), some (y_bi x5), some (y_bi x6)] [y_bi 1, y_bi xs0, y_bi xs1, y_bi xs2, y_bo 101 196608 as3] m := (y_R_eq (md := z_md_260) rfl rfl).trans rfl
set_option maxRecDepth 4000 in
theorem y_E_260_203 (d : Nat) (a0 : Nat) (x1 : Int) (x2 : Int) (x3 : Int) (x4 : Int) (x5 : Int) (x6 : Int) (xs0 : Int) (xs1 : Int) (xs2 : Int) (as3 : Nat) (m : y_m) : y_R sp ph d 260 203 [some (y_bo 11 0 a0), some (y_bi x1), some (y_bi x2), some (y_bi x3), some (y_bi x4), some (y_bi x5), some (y_bi x6)] [y_bi xs0, y_bi xs1, y_bi xs2, y_bo 101 196608 as3] m = y_R sp ph d 260 204 [some (y_bo 11 0 a0), some (y_bi x1), some (y_bi x2), some (y_bi x3), some (y_bi x4), some (y_bi x5), some (y_bi x6)] [y_bi 0, y_bi xs0, y_bi xs1, y_bi xs2, y_bo 101 196608 as3] m := (y_R_eq (md := z_md_260) rfl rfl).trans rfl
set_option maxRecDepth 4000 in
theorem y_E_260_204 (d : Nat) (a0 : Nat) (x1 : Int) (x2 : Int) (x3 : Int) (x4 : Int) (x5 : Int) (x6 : Int) (xs0 : Int) (xs1 : Int) (xs2 : Int) (xs3 : Int) (as4 : Nat) (m : y_m) : y_R sp ph d 260 204 [some (y_bo 11 0 a0), some (y_bi x1), some (y_bi x2), some (y_bi x3), some (y_bi x4), some (y_bi x5), some (y_bi x6)] [y_bi xs0, y_bi xs1, y_bi xs2, y_bi xs3, y_bo 101 196608 as4] m = y_bI (y_V sp ph d 258 [y_bi xs3, y_bi xs2, y_bi xs1, y_bi xs0] m) (fun v1 m1 => y_g (0 ≤ v1 ∧ v1 < (196608 : Int)) (if z_w (z_lcmp (y_mJ m1 as4 v1.toNat) (-1)) = 0 then y_R sp ph d 260 249 [some (y_bo 11 0 a0), some (y_bi x1), some (y_bi x2), some (y_bi x3), some (y_bi x4), some (y_bi x5), some (y_bi x6)] [] m1 else if z_w x6 ≤ 1 then y_R sp ph d 260 231 [some (y_bo 11 0 a0), some (y_bi x1), some (y_bi x2), some (y_bi x3), some (y_bi x4), some (y_bi x5), some (y_bi x6)] [y_bi x5, y_bi x4, y_bi x3, y_bo 11 0 a0] m1 else y_R sp ph d 260 232 [some (y_bo 11 0 a0), some (y_bi x1), some (y_bi x2), some (y_bi x3), some (y_bi x4), some (y_bi x5), some (y_bi x6)] [y_bi 1, y_bi x5, y_bi x4, y_bi x3, y_bo 11 0 a0] m1)) (fun e m1 => y_px e m1) := by
  rw [y_R_eq (md := z_md_260) rfl rfl]
  exact (y_bIc fun v1 m1 => (y_sh (L' := [some (y_bo 11 0 a0), some (y_bi x1), some (y_bi x2), some (y_bi x3), some (y_bi x4), some (y_bi x5), some (y_bi x6)]) (S' := [y_bi v1, y_bo 101 196608 as4]) rfl rfl rfl))
set_option maxRecDepth 4000 in
theorem y_E_260_231 (d : Nat) (a0 : Nat) (x1 : Int) (x2 : Int) (x3 : Int) (x4 : Int) (x5 : Int) (x6 : Int) (xs0 : Int) (xs1 : Int) (xs2 : Int) (as3 : Nat) (m : y_m) : y_R sp ph d 260 231 [some (y_bo 11 0 a0), some (y_bi x1), some (y_bi x2), some (y_bi x3), some (y_bi x4), some (y_bi x5), some (y_bi x6)] [y_bi xs0, y_bi xs1, y_bi xs2, y_bo 11 0 as3] m = y_R sp ph d 260 232 [some (y_bo 11 0 a0), some (y_bi x1), some (y_bi x2), some (y_bi x3), some (y_bi x4), some (y_bi x5), some (y_bi x6)] [y_bi 0, y_bi xs0, y_bi xs1, y_bi xs2, y_bo 11 0 as3] m := (y_R_eq (md := z_md_260) rfl rfl).trans rfl
set_option maxRecDepth 4000 in
theorem y_E_260_232 (d : Nat) (a0 : Nat) (x1 : Int) (x2 : Int) (x3 : Int) (x4 : Int) (x5 : Int) (x6 : Int) (xs0 : Int) (xs1 : Int) (xs2 : Int) (xs3 : Int) (as4 : Nat) (m : y_m) : y_R sp ph d 260 232 [some (y_bo 11 0 a0), some (y_bi x1), some (y_bi x2), some (y_bi x3), some (y_bi x4), some (y_bi x5), some (y_bi x6)] [y_bi xs0, y_bi xs1, y_bi xs2, y_bi xs3, y_bo 11 0 as4] m = if ¬ z_w (z_irem x6 2) = 1 then y_R sp ph d 260 244 [some (y_bo 11 0 a0), some (y_bi x1), some (y_bi x2), some (y_bi x3), some (y_bi x4), some (y_bi x5), some (y_bi x6)] [y_bi xs0, y_bi xs1, y_bi xs2, y_bi xs3, y_bo 11 0 as4] m else y_R sp ph d 260 245 [some (y_bo 11 0 a0), some (y_bi x1), some (y_bi x2), some (y_bi x3), some (y_bi x4), some (y_bi x5), some (y_bi x6)] [y_bi 1, y_bi xs0, y_bi xs1, y_bi xs2, y_bi xs3, y_bo 11 0 as4] m := (y_R_eq (md := z_md_260) rfl rfl).trans rfl
set_option maxRecDepth 4000 in
theorem y_E_260_244 (d : Nat) (a0 : Nat) (x1 : Int) (x2 : Int) (x3 : Int) (x4 : Int) (x5 : Int) (x6 : Int) (xs0 : Int) (xs1 : Int) (xs2 : Int) (xs3 : Int) (as4 : Nat) (m : y_m) : y_R sp ph d 260 244 [some (y_bo 11 0 a0), some (y_bi x1), some (y_bi x2), some (y_bi x3), some (y_bi x4), some (y_bi x5), some (y_bi x6)] [y_bi xs0, y_bi xs1, y_bi xs2, y_bi xs3, y_bo 11 0 as4] m = y_R sp ph d 260 245 [some (y_bo 11 0 a0), some (y_bi x1), some (y_bi x2), some (y_bi x3), some (y_bi x4), some (y_bi x5), some (y_bi x6)] [y_bi 0, y_bi xs0, y_bi xs1, y_bi xs2, y_bi xs3, y_bo 11 0 as4] m := (y_R_eq (md := z_md_260) rfl rfl).trans rfl
set_option maxRecDepth 4000 in
theorem y_E_260_245 (d : Nat) (a0 : Nat) (x1 : Int) (x2 : Int) (x3 : Int) (x4 : Int) (x5 : Int) (x6 : Int) (xs0 : Int) (xs1 : Int) (xs2 : Int) (xs3 : Int) (xs4 : Int) (as5 : Nat) (m : y_m) : y_R sp ph d 260 245 [some (y_bo 11 0 a0), some (y_bi x1), some (y_bi x2), some (y_bi x3), some (y_bi x4), some (y_bi x5), some (y_bi x6)] [y_bi xs0, y_bi xs1, y_bi xs2, y_bi xs3, y_bi xs4, y_bo 11 0 as5] m = y_bV (y_V sp ph d 261 [y_bo 11 0 as5, y_bi xs4, y_bi xs3, y_bi xs2, y_bi xs1, y_bi xs0, y_bi x1] m) (fun m1 => y_R sp ph d 260 249 [some (y_bo 11 0 a0), some (y_bi x1), some (y_bi x2), some (y_bi x3), some (y_bi x4), some (y_bi x5), some (y_bi x6)] [] m1) (fun e m1 => y_px e m1) := by
  rw [y_R_eq (md := z_md_260) rfl rfl]
  exact (y_bVc fun m1 => (y_sh (L' := [some (y_bo 11 0 a0), some (y_bi x1), some (y_bi x2), some (y_bi x3), some (y_bi x4), some (y_bi x5), some (y_bi x6)]) (S' := []) rfl rfl rfl))
set_option maxRecDepth 4000 in
theorem y_E_260_249 (d : Nat) (a0 : Nat) (x1 : Int) (x2 : Int) (x3 : Int) (x4 : Int) (x5 : Int) (x6 : Int) (m : y_m) : y_R sp ph d 260 249 [some (y_bo 11 0 a0), some (y_bi x1), some (y_bi x2), some (y_bi x3), some (y_bi x4), some (y_bi x5), some (y_bi x6)] [] m = y_R sp ph d 260 167 [some (y_bo 11 0 a0), some (y_bi x1), some (y_bi x2), some (y_bi x3), some (y_bi x4), some (y_bi x5), some (y_bi (x6 + 1))] [] m := (y_R_eq (md := z_md_260) rfl rfl).trans rfl
set_option maxRecDepth 4000 in
theorem y_E_260_255 (d : Nat) (a0 : Nat) (x1 : Int) (x2 : Int) (x3 : Int) (x4 : Int) (x5 : Int) (m : y_m) : y_R sp ph d 260 255 [some (y_bo 11 0 a0), some (y_bi x1), some (y_bi x2), some (y_bi x3), some (y_bi x4), some (y_bi x5), none] [] m = y_R sp ph d 260 158 [some (y_bo 11 0 a0), some (y_bi x1), some (y_bi x2), some (y_bi x3), some (y_bi x4), some (y_bi (x5 + 1)), none] [] m := (y_R_eq (md := z_md_260) rfl rfl).trans rfl
set_option maxRecDepth 4000 in
theorem y_E_260_261 (d : Nat) (a0 : Nat) (x1 : Int) (x2 : Int) (x3 : Int) (m : y_m) : y_R sp ph d 260 261 [some (y_bo 11 0 a0), some (y_bi x1), some (y_bi x2), some (y_bi x3), none, none, none] [] m = y_R sp ph d 260 38 [some (y_bo 11 0 a0), some (y_bi x1), some (y_bi x2), some (y_bi (x3 + 1)), none, none, none] [] m := (y_R_eq (md := z_md_260) rfl rfl).trans rfl
set_option maxRecDepth 4000 in
theorem y_E_260_267 (d : Nat) (m : y_m) : y_R sp ph d 260 267 [none, none, none, none, none, none, none] [] m = y_rV m := (y_R_eq (md := z_md_260) rfl rfl).trans rfl
set_option maxRecDepth 4000 in
theorem y_C_260 (d : Nat) (a0 : Nat) (m : y_m) : y_V sp ph (d + 1) 260 [y_bo 11 0 a0] m = y_R sp ph d 260 0 [some (y_bo 11 0 a0), none, none, none, none, none, none] [] m := (y_V_eq (md := z_md_260) rfl rfl rfl).trans rfl
/-! LacedHolesModel.goesOn (IIIZZI)V -/
set_option maxRecDepth 4000 in
theorem y_E_261_0 (d : Nat) (a0 : Nat) (x1 : Int) (x2 : Int) (x3 : Int) (x4 : Int) (x5 : Int) (x6 : Int) (m : y_m) : y_R sp ph d 261 0 [some (y_bo 11 0 a0), some (y_bi x1), some (y_bi x2), some (y_bi x3), some (y_bi x4), some (y_bi x5), some (y_bi x6), none, none, none, none, none] [] m = y_bI (y_V sp ph d 258 [y_bi x1, y_bi x3, y_bi x4, y_bi x5] m) (fun v1 m1 => y_g (0 ≤ v1 ∧ v1 < (196608 : Int)) (y_bI (y_V sp ph d 211 [y_bo 11 0 a0, y_bi x3, y_bi x2] m1) (fun v2 m2 => y_bI (y_V sp ph d 201 [y_bi x1] m2) (fun v3 m3 => if z_w v3 ≤ 2 then y_R sp ph d 261 111 [some (y_bo 11 0 a0), some (y_bi x1), some (y_bi x2), some (y_bi x3), some (y_bi x4), some (y_bi x5), some (y_bi x6), some (y_bl (y_mJ m1 99 v1.toNat)), none, none, none, none] [] m3 else y_bI (y_V sp ph d 227 [y_bo 11 0 a0, y_bi x4, y_bi v2] m3) (fun v4 m4 => if z_w v4 = 0 then y_R sp ph d 261 111 [some (y_bo 11 0 a0), some (y_bi x1), some (y_bi x2), some (y_bi x3), some (y_bi x4), some (y_bi x5), some (y_bi x6), some (y_bl (y_mJ m1 99 v1.toNat)), none, none, none, none] [] m4 else y_bI (y_V sp ph d 227 [y_bo 11 0 a0, y_bi v2, y_bi x5] m4) (fun v5 m5 => if z_w v5 = 0 then y_R sp ph d 261 111 [some (y_bo 11 0 a0), some (y_bi x1), some (y_bi x2), some (y_bi x3), some (y_bi x4), some (y_bi x5), some (y_bi x6), some (y_bl (y_mJ m1 99 v1.toNat)), none, none, none, none] [] m5 else y_bL (y_V sp ph d 212 [y_bo 11 0 a0, y_bi x3, y_bi x2] m5) (fun v6 m6 => y_g (0 ≤ x1 ∧ x1 < (4096 : Int)) (if z_w (z_lcmp (y_mJ m6 100 x1.toNat) (-1)) = 0 then y_R sp ph d 261 99 [some (y_bo 11 0 a0), some (y_bi x1), some (y_bi x2), some (y_bi x3), some (y_bi x4), some (y_bi x5), some (y_bi x6), some (y_bl (y_mJ m1 99 v1.toNat)), none, none, some (y_bl ((y_mJ m1 99 v1.toNat) + v6)), none] [y_bi x1, y_bo 101 4096 100] m6 else y_g (0 ≤ x1 ∧ x1 < (4096 : Int)) (y_bI (y_V sp ph d 219 [y_bo 11 0 a0, y_bl ((y_mJ m1 99 v1.toNat) + v6), y_bl (y_mJ m6 100 x1.toNat), y_bi 0] m6) (fun v7 m7 => if z_w v7 = 0 then y_R sp ph d 261 104 [some (y_bo 11 0 a0), some (y_bi x1), some (y_bi x2), some (y_bi x3), some (y_bi x4), some (y_bi x5), some (y_bi x6), some (y_bl (y_mJ m1 99 v1.toNat)), none, none, none, none] [y_bi x1, y_bo 101 4096 100] m7 else y_R sp ph d 261 99 [some (y_bo 11 0 a0), some (y_bi x1), some (y_bi x2), some (y_bi x3), some (y_bi x4), some (y_bi x5), some (y_bi x6), some (y_bl (y_mJ m1 99 v1.toNat)), none, none, some (y_bl ((y_mJ m1 99 v1.toNat) + v6)), none] [y_bi x1, y_bo 101 4096 100] m7) (fun e m1 => y_px e m1)))) (fun e m1 => y_px e m1)) (fun e m1 => y_px e m1)) (fun e m1 => y_px e m1)) (fun e m1 => y_px e m1)) (fun e m1 => y_px e m1))) (fun e m1 => y_px e m1) := by
  rw [y_R_eq (md := z_md_261) rfl rfl]
  exact (y_bIc fun v1 m1 => (y_sh (L' := [some (y_bo 11 0 a0), some (y_bi x1), some (y_bi x2), some (y_bi x3), some (y_bi x4), some (y_bi x5), some (y_bi x6), none, none, none, none, none]) (S' := [y_bi v1, y_bo 101 196608 99]) rfl rfl (y_gc (y_bIc fun v2 m2 => (y_sh (L' := [some (y_bo 11 0 a0), some (y_bi x1), some (y_bi x2), some (y_bi x3), some (y_bi x4), some (y_bi x5), some (y_bi x6), some (y_bl (y_mJ m1 99 v1.toNat)), none, none, none, none]) (S' := [y_bi v2]) rfl rfl (y_bIc fun v3 m3 => (y_sh (L' := [some (y_bo 11 0 a0), some (y_bi x1), some (y_bi x2), some (y_bi x3), some (y_bi x4), some (y_bi x5), some (y_bi x6), some (y_bl (y_mJ m1 99 v1.toNat)), none, some (y_bi v2), none, none]) (S' := [y_bi v3]) rfl rfl (y_ic rfl (y_bIc fun v4 m4 => (y_sh (L' := [some (y_bo 11 0 a0), some (y_bi x1), some (y_bi x2), some (y_bi x3), some (y_bi x4), some (y_bi x5), some (y_bi x6), some (y_bl (y_mJ m1 99 v1.toNat)), none, some (y_bi v2), none, none]) (S' := [y_bi v4]) rfl rfl (y_ic rfl (y_bIc fun v5 m5 => (y_sh (L' := [some (y_bo 11 0 a0), some (y_bi x1), some (y_bi x2), some (y_bi x3), some (y_bi x4), some (y_bi x5), some (y_bi x6), some (y_bl (y_mJ m1 99 v1.toNat)), none, some (y_bi v2), none, none]) (S' := [y_bi v5]) rfl rfl (y_ic rfl (y_bLc fun v6 m6 => (y_sh (L' := [some (y_bo 11 0 a0), some (y_bi x1), some (y_bi x2), some (y_bi x3), some (y_bi x4), some (y_bi x5), some (y_bi x6), some (y_bl (y_mJ m1 99 v1.toNat)), none, some (y_bi v2), none, none]) (S' := [y_bl v6, y_bl (y_mJ m1 99 v1.toNat)]) rfl rfl (y_gc (y_ic rfl (y_gc (y_bIc fun v7 m7 => (y_sh (L' := [some (y_bo 11 0 a0), some (y_bi x1), some (y_bi x2), some (y_bi x3), some (y_bi x4), some (y_bi x5), some (y_bi x6), some (y_bl (y_mJ m1 99 v1.toNat)), none, some (y_bi v2), some (y_bl ((y_mJ m1 99 v1.toNat) + v6)), none]) (S' := [y_bi v7, y_bi x1, y_bo 101 4096 100]) rfl rfl rfl)))))))))))))))))))))
set_option maxRecDepth 4000 in
theorem y_E_261_99 (d : Nat) (a0 : Nat) (x1 : Int) (x2 : Int) (x3 : Int) (x4 : Int) (x5 : Int) (x6 : Int) (x7 : Int) (x10 : Int) (xs0 : Int) (as1 : Nat) (m : y_m) : y_R sp ph d 261 99 [some (y_bo 11 0 a0), some (y_bi x1), some (y_bi x2), some (y_bi x3), some (y_bi x4), some (y_bi x5), some (y_bi x6), some (y_bl x7), none, none, some (y_bl x10), none] [y_bi xs0, y_bo 101 4096 as1] m = y_R sp ph d 261 110 [some (y_bo 11 0 a0), some (y_bi x1), some (y_bi x2), some (y_bi x3), some (y_bi x4), some (y_bi x5), some (y_bi x6), some (y_bl x7), none, none, none, none] [y_bl x10, y_bi xs0, y_bo 101 4096 as1] m := (y_R_eq (md := z_md_261) rfl rfl).trans rfl
set_option maxRecDepth 4000 in
theorem y_E_261_104 (d : Nat) (a0 : Nat) (x1 : Int) (x2 : Int) (x3 : Int) (x4 : Int) (x5 : Int) (x6 : Int) (x7 : Int) (xs0 : Int) (as1 : Nat) (m : y_m) : y_R sp ph d 261 104 [some (y_bo 11 0 a0), some (y_bi x1), some (y_bi x2), some (y_bi x3), some (y_bi x4), some (y_bi x5), some (y_bi x6), some (y_bl x7), none, none, none, none] [y_bi xs0, y_bo 101 4096 as1] m = y_g (0 ≤ x1 ∧ x1 < (4096 : Int)) (y_R sp ph d 261 110 [some (y_bo 11 0 a0), some (y_bi x1), some (y_bi x2), some (y_bi x3), some (y_bi x4), some (y_bi x5), some (y_bi x6), some (y_bl x7), none, none, none, none] [y_bl (y_mJ m 100 x1.toNat), y_bi xs0, y_bo 101 4096 as1] m) := (y_R_eq (md := z_md_261) rfl rfl).trans rfl
set_option maxRecDepth 4000 in
theorem y_E_261_110 (d : Nat) (a0 : Nat) (x1 : Int) (x2 : Int) (x3 : Int) (x4 : Int) (x5 : Int) (x6 : Int) (x7 : Int) (xs0 : Int) (xs1 : Int) (as2 : Nat) (m : y_m) : y_R sp ph d 261 110 [some (y_bo 11 0 a0), some (y_bi x1), some (y_bi x2), some (y_bi x3), some (y_bi x4), some (y_bi x5), some (y_bi x6), some (y_bl x7), none, none, none, none] [y_bl xs0, y_bi xs1, y_bo 101 4096 as2] m = y_g (0 ≤ xs1 ∧ xs1 < (4096 : Int)) (y_R sp ph d 261 111 [some (y_bo 11 0 a0), some (y_bi x1), some (y_bi x2), some (y_bi x3), some (y_bi x4), some (y_bi x5), some (y_bi x6), some (y_bl x7), none, none, none, none] [] (y_sJ m as2 xs1.toNat xs0)) := (y_R_eq (md := z_md_261) rfl rfl).trans rfl
set_option maxRecDepth 4000 in
theorem y_E_261_111 (d : Nat) (a0 : Nat) (x1 : Int) (x2 : Int) (x3 : Int) (x4 : Int) (x5 : Int) (x6 : Int) (x7 : Int) (m : y_m) : y_R sp ph d 261 111 [some (y_bo 11 0 a0), some (y_bi x1), some (y_bi x2), some (y_bi x3), some (y_bi x4), some (y_bi x5), some (y_bi x6), some (y_bl x7), none, none, none, none] [] m = y_R sp ph d 261 116 [some (y_bo 11 0 a0), some (y_bi x1), none, some (y_bi x3), some (y_bi x4), some (y_bi x5), some (y_bi x6), some (y_bl x7), none, none, some (y_bi (x2 + 1)), none] [] m := (y_R_eq (md := z_md_261) rfl rfl).trans rfl
set_option maxRecDepth 4000 in
theorem y_E_261_116 (d : Nat) (a0 : Nat) (x1 : Int) (x3 : Int) (x4 : Int) (x5 : Int) (x6 : Int) (x7 : Int) (x10 : Int) (m : y_m) : y_R sp ph d 261 116 [some (y_bo 11 0 a0), some (y_bi x1), none, some (y_bi x3), some (y_bi x4), some (y_bi x5), some (y_bi x6), some (y_bl x7), none, none, some (y_bi x10), none] [] m = y_bI (y_V sp ph d 199 [y_bo 11 0 a0] m) (fun v1 m1 => if z_w v1 ≤ z_w x10 then y_R sp ph d 261 200 [none, none, none, none, none, none, none, none, none, none, none, none] [] m1 else y_bI (y_V sp ph d 211 [y_bo 11 0 a0, y_bi x3, y_bi x10] m1) (fun v2 m2 => if ¬ z_w (z_iand (z_ishr x6 x10) 1) = 1 then y_R sp ph d 261 194 [some (y_bo 11 0 a0), some (y_bi x1), none, some (y_bi x3), some (y_bi x4), some (y_bi x5), some (y_bi x6), some (y_bl x7), none, none, some (y_bi x10), none] [] m2 else if ¬ z_w (z_iand (z_ishr x1 x10) 1) = 0 then y_R sp ph d 261 194 [some (y_bo 11 0 a0), some (y_bi x1), none, some (y_bi x3), some (y_bi x4), some (y_bi x5), some (y_bi x6), some (y_bl x7), none, none, some (y_bi x10), none] [] m2 else y_bI (y_V sp ph d 227 [y_bo 11 0 a0, y_bi x4, y_bi v2] m2) (fun v3 m3 => if z_w v3 = 0 then y_R sp ph d 261 194 [some (y_bo 11 0 a0), some (y_bi x1), none, some (y_bi x3), some (y_bi x4), some (y_bi x5), some (y_bi x6), some (y_bl x7), none, none, some (y_bi x10), none] [] m3 else y_bI (y_V sp ph d 258 [y_bi (z_ior x1 (z_ishl 1 x10)), y_bi x10, y_bi v2, y_bi x5] m3) (fun v4 m4 => y_bL (y_V sp ph d 212 [y_bo 11 0 a0, y_bi x3, y_bi x10] m4) (fun v5 m5 => y_bV (y_V sp ph d 259 [y_bo 11 0 a0, y_bi v4, y_bl (x7 + v5)] m5) (fun m6 => y_R sp ph d 261 194 [some (y_bo 11 0 a0), some (y_bi x1), none, some (y_bi x3), some (y_bi x4), some (y_bi x5), some (y_bi x6), some (y_bl x7), none, none, some (y_bi x10), none] [] m6) (fun e m1 => y_px e m1)) (fun e m1 => y_px e m1)) (fun e m1 => y_px e m1)) (fun e m1 => y_px e m1)) (fun e m1 => y_px e m1)) (fun e m1 => y_px e m1) := by
  rw [y_R_eq (md := z_md_261) rfl rfl]
  exact (y_bIc fun v1 m1 => (y_sh (L' := [some (y_bo 11 0 a0), some (y_bi x1), none, some (y_bi x3), some (y_bi x4), some (y_bi x5), some (y_bi x6), some (y_bl x7), none, none, some (y_bi x10), none]) (S' := [y_bi v1, y_bi x10]) rfl rfl (y_ic rfl (y_bIc fun v2 m2 => (y_sh (L' := [some (y_bo 11 0 a0), some (y_bi x1), none, some (y_bi x3), some (y_bi x4), some (y_bi x5), some (y_bi x6), some (y_bl x7), none, none, some (y_bi x10), none]) (S' := [y_bi v2]) rfl rfl (y_ic rfl (y_ic rfl (y_bIc fun v3 m3 => (y_sh (L' := [some (y_bo 11 0 a0), some (y_bi x1), none, some (y_bi x3), some (y_bi x4), some (y_bi x5), some (y_bi x6), some (y_bl x7), none, none, some (y_bi x10), some (y_bi v2)]) (S' := [y_bi v3]) rfl rfl (y_ic rfl (y_bIc fun v4 m4 => (y_sh (L' := [some (y_bo 11 0 a0), some (y_bi x1), none, some (y_bi x3), some (y_bi x4), some (y_bi x5), some (y_bi x6), some (y_bl x7), none, none, some (y_bi x10), some (y_bi v2)]) (S' := [y_bi v4, y_bo 11 0 a0]) rfl rfl (y_bLc fun v5 m5 => (y_sh (L' := [some (y_bo 11 0 a0), some (y_bi x1), none, some (y_bi x3), some (y_bi x4), some (y_bi x5), some (y_bi x6), some (y_bl x7), none, none, some (y_bi x10), some (y_bi v2)]) (S' := [y_bl v5, y_bl x7, y_bi v4, y_bo 11 0 a0]) rfl rfl (y_bVc fun m6 => (y_sh (L' := [some (y_bo 11 0 a0), some (y_bi x1), none, some (y_bi x3), some (y_bi x4), some (y_bi x5), some (y_bi x6), some (y_bl x7), none, none, some (y_bi x10), some (y_bi v2)]) (S' := []) rfl rfl rfl))))))))))))))))
set_option maxRecDepth 4000 in
theorem y_E_261_194 (d : Nat) (a0 : Nat) (x1 : Int) (x3 : Int) (x4 : Int) (x5 : Int) (x6 : Int) (x7 : Int) (x10 : Int) (m : y_m) : y_R sp ph d 261 194 [some (y_bo 11 0 a0), some (y_bi x1), none, some (y_bi x3), some (y_bi x4), some (y_bi x5), some (y_bi x6), some (y_bl x7), none, none, some (y_bi x10), none] [] m = y_R sp ph d 261 116 [some (y_bo 11 0 a0), some (y_bi x1), none, some (y_bi x3), some (y_bi x4), some (y_bi x5), some (y_bi x6), some (y_bl x7), none, none, some (y_bi (x10 + 1)), none] [] m := (y_R_eq (md := z_md_261) rfl rfl).trans rfl
set_option maxRecDepth 4000 in
theorem y_E_261_200 (d : Nat) (m : y_m) : y_R sp ph d 261 200 [none, none, none, none, none, none, none, none, none, none, none, none] [] m = y_rV m := (y_R_eq (md := z_md_261) rfl rfl).trans rfl
set_option maxRecDepth 4000 in
theorem y_C_261 (d : Nat) (a0 : Nat) (x1 : Int) (x2 : Int) (x3 : Int) (x4 : Int) (x5 : Int) (x6 : Int) (m : y_m) : y_V sp ph (d + 1) 261 [y_bo 11 0 a0, y_bi x1, y_bi x2, y_bi x3, y_bi x4, y_bi x5, y_bi x6] m = y_R sp ph d 261 0 [some (y_bo 11 0 a0), some (y_bi x1), some (y_bi x2), some (y_bi x3), some (y_bi x4), some (y_bi x5), some (y_bi x6), none, none, none, none, none] [] m := (y_V_eq (md := z_md_261) rfl rfl rfl).trans rfl
/-! LacedHolesModel.leave ()I -/
set_option maxRecDepth 4000 in
theorem y_E_262_0 (d : Nat) (a0 : Nat) (m : y_m) : y_R sp ph d 262 0 [some (y_bo 11 0 a0), none, none, none, none, none] [] m = y_bV (y_V sp ph d 260 [y_bo 11 0 a0] (y_sI m a0 0 0)) (fun m1 => y_bI (y_V sp ph d 200 [y_bo 11 0 a0] m1) (fun v2 m2 => y_R sp ph d 262 16 [some (y_bo 11 0 a0), some (y_bi v2), some (y_bi 0), none, none, none] [] m2) (fun e m1 => y_px e m1)) (fun e m1 => y_px e m1) := by
  rw [y_R_eq (md := z_md_262) rfl rfl]
  exact (y_bVc fun m1 => (y_sh (L' := [some (y_bo 11 0 a0), none, none, none, none, none]) (S' := []) rfl rfl (y_bIc fun v2 m2 => (y_sh (L' := [some (y_bo 11 0 a0), none, none, none, none, none]) (S' := [y_bi v2]) rfl rfl rfl))))
set_option maxRecDepth 4000 in
theorem y_E_262_16 (d : Nat) (a0 : Nat) (x1 : Int) (x2 : Int) (m : y_m) : y_R sp ph d 262 16 [some (y_bo 11 0 a0), some (y_bi x1), some (y_bi x2), none, none, none] [] m = if 12 < z_w x2 then y_R sp ph d 262 92 [none, none, none, none, none, none] [] m else y_R sp ph d 262 24 [some (y_bo 11 0 a0), some (y_bi x1), some (y_bi x2), some (y_bi 0), none, none] [] m := (y_R_eq (md := z_md_262) rfl rfl).trans rfl
set_option maxRecDepth 4000 in
theorem y_E_262_24 (d : Nat) (a0 : Nat) (x1 : Int) (x2 : Int) (x3 : Int) (m : y_m) : y_R sp ph d 262 24 [some (y_bo 11 0 a0), some (y_bi x1), some (y_bi x2), some (y_bi x3), none, none] [] m = if z_w x1 < z_w x3 then y_R sp ph d 262 86 [some (y_bo 11 0 a0), some (y_bi x1), some (y_bi x2), none, none, none] [] m else if ¬ z_w (z_iand x3 (z_ixor x1 (-1))) = 0 then y_R sp ph d 262 80 [some (y_bo 11 0 a0), some (y_bi x1), some (y_bi x2), some (y_bi x3), none, none] [] m else y_bI (y_V sp ph d 201 [y_bi x3] m) (fun v1 m1 => if z_w v1 = z_w x2 then y_R sp ph d 262 48 [some (y_bo 11 0 a0), some (y_bi x1), some (y_bi x2), some (y_bi x3), none, none] [] m1 else y_R sp ph d 262 80 [some (y_bo 11 0 a0), some (y_bi x1), some (y_bi x2), some (y_bi x3), none, none] [] m1) (fun e m1 => y_px e m1) := by
  rw [y_R_eq (md := z_md_262) rfl rfl]
  exact (y_ic rfl (y_ic rfl (y_bIc fun v1 m1 => (y_sh (L' := [some (y_bo 11 0 a0), some (y_bi x1), some (y_bi x2), some (y_bi x3), none, none]) (S' := [y_bi v1]) rfl rfl rfl))))
set_option maxRecDepth 4000 in
theorem y_E_262_48 (d : Nat) (a0 : Nat) (x1 : Int) (x2 : Int) (x3 : Int) (m : y_m) : y_R sp ph d 262 48 [some (y_bo 11 0 a0), some (y_bi x1), some (y_bi x2), some (y_bi x3), none, none] [] m = y_g (0 ≤ z_iand x1 (z_ixor x3 (-1)) ∧ z_iand x1 (z_ixor x3 (-1)) < (4096 : Int)) (if z_w (z_lcmp (y_mJ m 100 (z_iand x1 (z_ixor x3 (-1))).toNat) (-1)) = 0 then y_R sp ph d 262 80 [some (y_bo 11 0 a0), some (y_bi x1), some (y_bi x2), some (y_bi x3), none, none] [] m else y_bI (y_V sp ph d 233 [y_bo 11 0 a0, y_bl (y_mJ m 100 (z_iand x1 (z_ixor x3 (-1))).toNat)] m) (fun v1 m1 => if z_w v1 = 0 then y_R sp ph d 262 80 [some (y_bo 11 0 a0), some (y_bi x1), some (y_bi x2), some (y_bi x3), none, none] [] m1 else y_rI x3 m1) (fun e m1 => y_px e m1)) := by
  rw [y_R_eq (md := z_md_262) rfl rfl]
  exact (y_gc (y_ic rfl (y_bIc fun v1 m1 => (y_sh (L' := [some (y_bo 11 0 a0), some (y_bi x1), some (y_bi x2), some (y_bi x3), some (y_bl (y_mJ m 100 (z_iand x1 (z_ixor x3 (-1))).toNat)), none]) (S' := [y_bi v1]) rfl rfl rfl))))
set_option maxRecDepth 4000 in
theorem y_E_262_80 (d : Nat) (a0 : Nat) (x1 : Int) (x2 : Int) (x3 : Int) (m : y_m) : y_R sp ph d 262 80 [some (y_bo 11 0 a0), some (y_bi x1), some (y_bi x2), some (y_bi x3), none, none] [] m = y_R sp ph d 262 24 [some (y_bo 11 0 a0), some (y_bi x1), some (y_bi x2), some (y_bi (x3 + 1)), none, none] [] m := (y_R_eq (md := z_md_262) rfl rfl).trans rfl
set_option maxRecDepth 4000 in
theorem y_E_262_86 (d : Nat) (a0 : Nat) (x1 : Int) (x2 : Int) (m : y_m) : y_R sp ph d 262 86 [some (y_bo 11 0 a0), some (y_bi x1), some (y_bi x2), none, none, none] [] m = y_R sp ph d 262 16 [some (y_bo 11 0 a0), some (y_bi x1), some (y_bi (x2 + 1)), none, none, none] [] m := (y_R_eq (md := z_md_262) rfl rfl).trans rfl
set_option maxRecDepth 4000 in
theorem y_E_262_92 (d : Nat) (m : y_m) : y_R sp ph d 262 92 [none, none, none, none, none, none] [] m = y_rI (-1) m := (y_R_eq (md := z_md_262) rfl rfl).trans rfl
set_option maxRecDepth 4000 in
theorem y_C_262 (d : Nat) (a0 : Nat) (m : y_m) : y_V sp ph (d + 1) 262 [y_bo 11 0 a0] m = y_R sp ph d 262 0 [some (y_bo 11 0 a0), none, none, none, none, none] [] m := (y_V_eq (md := z_md_262) rfl rfl rfl).trans rfl
/-! LacedHolesModel.tooShort ()I -/
set_option maxRecDepth 4000 in
theorem y_E_263_0 (d : Nat) (a0 : Nat) (m : y_m) : y_R sp ph d 263 0 [some (y_bo 11 0 a0), none, none, none] [] m = y_bI (y_V sp ph d 200 [y_bo 11 0 a0] (y_sI m a0 0 0)) (fun v1 m1 => y_bI (y_V sp ph d 201 [y_bi v1] m1) (fun v2 m2 => if 3 ≤ z_w v2 then y_R sp ph d 263 22 [some (y_bo 11 0 a0), none, none, none] [] m2 else y_R sp ph d 263 31 [some (y_bo 11 0 a0), none, none, none] [y_bl (-1)] m2) (fun e m1 => y_px e m1)) (fun e m1 => y_px e m1) := by
  rw [y_R_eq (md := z_md_263) rfl rfl]
  exact (y_bIc fun v1 m1 => (y_sh (L' := [some (y_bo 11 0 a0), none, none, none]) (S' := [y_bi v1]) rfl rfl (y_bIc fun v2 m2 => (y_sh (L' := [some (y_bo 11 0 a0), none, none, none]) (S' := [y_bi v2]) rfl rfl rfl))))
set_option maxRecDepth 4000 in
theorem y_E_263_22 (d : Nat) (a0 : Nat) (m : y_m) : y_R sp ph d 263 22 [some (y_bo 11 0 a0), none, none, none] [] m = y_bI (y_V sp ph d 200 [y_bo 11 0 a0] m) (fun v1 m1 => y_bL (y_V sp ph d 254 [y_bo 11 0 a0, y_bi v1, y_bi 0] m1) (fun v2 m2 => y_R sp ph d 263 31 [some (y_bo 11 0 a0), none, none, none] [y_bl v2] m2) (fun e m1 => y_px e m1)) (fun e m1 => y_px e m1) := by
  rw [y_R_eq (md := z_md_263) rfl rfl]
  exact (y_bIc fun v1 m1 => (y_sh (L' := [some (y_bo 11 0 a0), none, none, none]) (S' := [y_bi v1, y_bo 11 0 a0]) rfl rfl (y_bLc fun v2 m2 => (y_sh (L' := [some (y_bo 11 0 a0), none, none, none]) (S' := [y_bl v2]) rfl rfl rfl))))
set_option maxRecDepth 4000 in
theorem y_E_263_31 (d : Nat) (a0 : Nat) (xs0 : Int) (m : y_m) : y_R sp ph d 263 31 [some (y_bo 11 0 a0), none, none, none] [y_bl xs0] m = if ¬ z_w (z_lcmp xs0 (-1)) = 0 then y_R sp ph d 263 42 [some (y_bo 11 0 a0), some (y_bl xs0), none, none] [] m else y_rI (-1) m := (y_R_eq (md := z_md_263) rfl rfl).trans rfl
set_option maxRecDepth 4000 in
theorem y_E_263_42 (d : Nat) (a0 : Nat) (x1 : Int) (m : y_m) : y_R sp ph d 263 42 [some (y_bo 11 0 a0), some (y_bl x1), none, none] [] m = y_bI (y_V sp ph d 221 [y_bo 11 0 a0, y_bl x1, y_bi 0] m) (fun v1 m1 => if z_w (v1 - (1000 * (y_mI m1 52 5))) ≤ 0 then y_R sp ph d 263 68 [none, none, none, none] [] m1 else y_R sp ph d 263 69 [none, none, none, none] [y_bi (v1 - (1000 * (y_mI m1 52 5)))] m1) (fun e m1 => y_px e m1) := by
  rw [y_R_eq (md := z_md_263) rfl rfl]
  exact (y_bIc fun v1 m1 => (y_sh (L' := [some (y_bo 11 0 a0), some (y_bl x1), none, none]) (S' := [y_bi v1]) rfl rfl rfl))
set_option maxRecDepth 4000 in
theorem y_E_263_68 (d : Nat) (m : y_m) : y_R sp ph d 263 68 [none, none, none, none] [] m = y_R sp ph d 263 69 [none, none, none, none] [y_bi 0] m := (y_R_eq (md := z_md_263) rfl rfl).trans rfl
set_option maxRecDepth 4000 in
theorem y_E_263_69 (d : Nat) (xs0 : Int) (m : y_m) : y_R sp ph d 263 69 [none, none, none, none] [y_bi xs0] m = y_rI xs0 m := (y_R_eq (md := z_md_263) rfl rfl).trans rfl
set_option maxRecDepth 4000 in
theorem y_C_263 (d : Nat) (a0 : Nat) (m : y_m) : y_V sp ph (d + 1) 263 [y_bo 11 0 a0] m = y_R sp ph d 263 0 [some (y_bo 11 0 a0), none, none, none] [] m := (y_V_eq (md := z_md_263) rfl rfl rfl).trans rfl
/-! LacedHolesModel.areApart (I)Z -/
set_option maxRecDepth 4000 in
theorem y_E_264_0 (d : Nat) (a0 : Nat) (x1 : Int) (m : y_m) : y_R sp ph d 264 0 [some (y_bo 11 0 a0), some (y_bi x1)] [] m = y_g (0 ≤ x1 ∧ x1 < (4096 : Int)) (if z_w (z_lcmp (y_mJ m 100 x1.toNat) (-1)) = 0 then y_R sp ph d 264 37 [none, none] [] m else y_bI (y_V sp ph d 200 [y_bo 11 0 a0] m) (fun v1 m1 => y_g (0 ≤ z_iand v1 (z_ixor x1 (-1)) ∧ z_iand v1 (z_ixor x1 (-1)) < (4096 : Int)) (if z_w (z_lcmp (y_mJ m1 100 (z_iand v1 (z_ixor x1 (-1))).toNat) (-1)) = 0 then y_R sp ph d 264 37 [none, none] [] m1 else y_R sp ph d 264 38 [none, none] [y_bi 1] m1)) (fun e m1 => y_px e m1)) := by
  rw [y_R_eq (md := z_md_264) rfl rfl]
  exact (y_gc (y_ic rfl (y_bIc fun v1 m1 => (y_sh (L' := [some (y_bo 11 0 a0), some (y_bi x1)]) (S' := [y_bi v1, y_bo 101 4096 100]) rfl rfl rfl))))
set_option maxRecDepth 4000 in
theorem y_E_264_37 (d : Nat) (m : y_m) : y_R sp ph d 264 37 [none, none] [] m = y_R sp ph d 264 38 [none, none] [y_bi 0] m := (y_R_eq (md := z_md_264) rfl rfl).trans rfl
set_option maxRecDepth 4000 in
theorem y_E_264_38 (d : Nat) (xs0 : Int) (m : y_m) : y_R sp ph d 264 38 [none, none] [y_bi xs0] m = y_g (xs0 = 0 ∨ xs0 = 1) (y_rI xs0 m) := (y_R_eq (md := z_md_264) rfl rfl).trans rfl
set_option maxRecDepth 4000 in
theorem y_C_264 (d : Nat) (a0 : Nat) (x1 : Int) (m : y_m) : y_V sp ph (d + 1) 264 [y_bo 11 0 a0, y_bi x1] m = y_R sp ph d 264 0 [some (y_bo 11 0 a0), some (y_bi x1)] [] m := (y_V_eq (md := z_md_264) rfl rfl rfl).trans rfl
/-! LacedHolesModel.two (I)I -/
set_option maxRecDepth 4000 in
theorem y_E_265_0 (d : Nat) (a0 : Nat) (x1 : Int) (m : y_m) : y_R sp ph d 265 0 [some (y_bo 11 0 a0), some (y_bi x1)] [] m = y_bI (y_V sp ph d 199 [y_bo 11 0 a0] (y_sI m a0 0 0)) (fun v1 m1 => y_bI (y_V sp ph d 180 [y_bi x1, y_bi 0, y_bi ((z_ishl 1 v1) - 1)] m1) (fun v2 m2 => if z_w v2 = 0 then y_R sp ph d 265 34 [some (y_bo 11 0 a0), some (y_bi x1)] [y_bo 11 0 a0] m2 else if z_w (z_iand x1 (y_mI m2 52 6)) = 0 then y_R sp ph d 265 38 [some (y_bo 11 0 a0), some (y_bi x1)] [y_bo 11 0 a0] m2 else y_R sp ph d 265 34 [some (y_bo 11 0 a0), some (y_bi x1)] [y_bo 11 0 a0] m2) (fun e m1 => y_px e m1)) (fun e m1 => y_px e m1) := by
  rw [y_R_eq (md := z_md_265) rfl rfl]
  exact (y_bIc fun v1 m1 => (y_sh (L' := [some (y_bo 11 0 a0), some (y_bi x1)]) (S' := [y_bi v1, y_bi 1, y_bi 0, y_bi x1, y_bo 11 0 a0]) rfl rfl (y_bIc fun v2 m2 => (y_sh (L' := [some (y_bo 11 0 a0), some (y_bi x1)]) (S' := [y_bi v2, y_bo 11 0 a0]) rfl rfl rfl))))
set_option maxRecDepth 4000 in
theorem y_E_265_34 (d : Nat) (a0 : Nat) (x1 : Int) (as0 : Nat) (m : y_m) : y_R sp ph d 265 34 [some (y_bo 11 0 a0), some (y_bi x1)] [y_bo 11 0 as0] m = y_R sp ph d 265 39 [some (y_bo 11 0 a0), some (y_bi x1)] [y_bi 1, y_bo 11 0 as0] m := (y_R_eq (md := z_md_265) rfl rfl).trans rfl
set_option maxRecDepth 4000 in
theorem y_E_265_38 (d : Nat) (a0 : Nat) (x1 : Int) (as0 : Nat) (m : y_m) : y_R sp ph d 265 38 [some (y_bo 11 0 a0), some (y_bi x1)] [y_bo 11 0 as0] m = y_R sp ph d 265 39 [some (y_bo 11 0 a0), some (y_bi x1)] [y_bi 0, y_bo 11 0 as0] m := (y_R_eq (md := z_md_265) rfl rfl).trans rfl
set_option maxRecDepth 4000 in
theorem y_E_265_39 (d : Nat) (a0 : Nat) (x1 : Int) (xs0 : Int) (as1 : Nat) (m : y_m) : y_R sp ph d 265 39 [some (y_bo 11 0 a0), some (y_bi x1)] [y_bi xs0, y_bo 11 0 as1] m = y_bI (y_V sp ph d 179 [y_bo 11 0 as1, y_bi xs0, y_bi 1] m) (fun v1 m1 => if z_w v1 = 0 then y_R sp ph d 265 48 [some (y_bo 11 0 a0), some (y_bi x1)] [] m1 else y_rI 0 m1) (fun e m1 => y_px e m1) := by
  rw [y_R_eq (md := z_md_265) rfl rfl]
  exact (y_bIc fun v1 m1 => (y_sh (L' := [some (y_bo 11 0 a0), some (y_bi x1)]) (S' := [y_bi v1]) rfl rfl rfl))
set_option maxRecDepth 4000 in
theorem y_E_265_48 (d : Nat) (a0 : Nat) (x1 : Int) (m : y_m) : y_R sp ph d 265 48 [some (y_bo 11 0 a0), some (y_bi x1)] [] m = y_bV (y_V sp ph d 260 [y_bo 11 0 a0] m) (fun m1 => y_bI (y_V sp ph d 264 [y_bo 11 0 a0, y_bi x1] m1) (fun v2 m2 => if z_w v2 = 0 then y_R sp ph d 265 88 [none, none] [] m2 else y_g (0 ≤ x1 ∧ x1 < (4096 : Int)) (y_bI (y_V sp ph d 200 [y_bo 11 0 a0] m2) (fun v3 m3 => y_g (0 ≤ z_iand v3 (z_ixor x1 (-1)) ∧ z_iand v3 (z_ixor x1 (-1)) < (4096 : Int)) (y_bI (y_V sp ph d 221 [y_bo 11 0 a0, y_bl ((y_mJ m2 100 x1.toNat) + (y_mJ m3 100 (z_iand v3 (z_ixor x1 (-1))).toNat)), y_bi 0] m3) (fun v4 m4 => y_R sp ph d 265 89 [none, none] [y_bi v4] m4) (fun e m1 => y_px e m1))) (fun e m1 => y_px e m1))) (fun e m1 => y_px e m1)) (fun e m1 => y_px e m1) := by
  rw [y_R_eq (md := z_md_265) rfl rfl]
  exact (y_bVc fun m1 => (y_sh (L' := [some (y_bo 11 0 a0), some (y_bi x1)]) (S' := []) rfl rfl (y_bIc fun v2 m2 => (y_sh (L' := [some (y_bo 11 0 a0), some (y_bi x1)]) (S' := [y_bi v2]) rfl rfl (y_ic rfl (y_gc (y_bIc fun v3 m3 => (y_sh (L' := [some (y_bo 11 0 a0), some (y_bi x1)]) (S' := [y_bi v3, y_bo 101 4096 100, y_bl (y_mJ m2 100 x1.toNat), y_bo 11 0 a0]) rfl rfl (y_gc (y_bIc fun v4 m4 => (y_sh (L' := [some (y_bo 11 0 a0), some (y_bi x1)]) (S' := [y_bi v4]) rfl rfl rfl)))))))))))
set_option maxRecDepth 4000 in
theorem y_E_265_88 (d : Nat) (m : y_m) : y_R sp ph d 265 88 [none, none] [] m = y_R sp ph d 265 89 [none, none] [y_bi (-1)] m := (y_R_eq (md := z_md_265) rfl rfl).trans rfl
set_option maxRecDepth 4000 in
theorem y_E_265_89 (d : Nat) (xs0 : Int) (m : y_m) : y_R sp ph d 265 89 [none, none] [y_bi xs0] m = y_rI xs0 m := (y_R_eq (md := z_md_265) rfl rfl).trans rfl
set_option maxRecDepth 4000 in
theorem y_C_265 (d : Nat) (a0 : Nat) (x1 : Int) (m : y_m) : y_V sp ph (d + 1) 265 [y_bo 11 0 a0, y_bi x1] m = y_R sp ph d 265 0 [some (y_bo 11 0 a0), some (y_bi x1)] [] m := (y_V_eq (md := z_md_265) rfl rfl rfl).trans rfl
/-! LacedHolesModel.colours ()I -/
set_option maxRecDepth 4000 in
theorem y_E_266_0 (d : Nat) (a0 : Nat) (m : y_m) : y_R sp ph d 266 0 [some (y_bo 11 0 a0), none, none, none, none] [] m = y_bV (y_V sp ph d 260 [y_bo 11 0 a0] (y_sI m a0 0 0)) (fun m1 => y_bI (y_V sp ph d 200 [y_bo 11 0 a0] m1) (fun v2 m2 => y_bI (y_V sp ph d 201 [y_bi v2] m2) (fun v3 m3 => y_R sp ph d 266 26 [some (y_bo 11 0 a0), some (y_bi v2), some (y_bi (z_idiv v3 2)), some (y_bi (-1)), some (y_bi 0)] [] m3) (fun e m1 => y_px e m1)) (fun e m1 => y_px e m1)) (fun e m1 => y_px e m1) := by
  rw [y_R_eq (md := z_md_266) rfl rfl]
  exact (y_bVc fun m1 => (y_sh (L' := [some (y_bo 11 0 a0), none, none, none, none]) (S' := []) rfl rfl (y_bIc fun v2 m2 => (y_sh (L' := [some (y_bo 11 0 a0), none, none, none, none]) (S' := [y_bi v2]) rfl rfl (y_bIc fun v3 m3 => (y_sh (L' := [some (y_bo 11 0 a0), some (y_bi v2), none, none, none]) (S' := [y_bi v3]) rfl rfl rfl))))))
set_option maxRecDepth 4000 in
theorem y_E_266_26 (d : Nat) (a0 : Nat) (x1 : Int) (x2 : Int) (x3 : Int) (x4 : Int) (m : y_m) : y_R sp ph d 266 26 [some (y_bo 11 0 a0), some (y_bi x1), some (y_bi x2), some (y_bi x3), some (y_bi x4)] [] m = if z_w x1 < z_w x4 then y_R sp ph d 266 120 [none, none, none, some (y_bi x3), none] [] m else if ¬ z_w (z_iand x4 (z_ixor x1 (-1))) = 0 then y_R sp ph d 266 114 [some (y_bo 11 0 a0), some (y_bi x1), some (y_bi x2), some (y_bi x3), some (y_bi x4)] [] m else y_bI (y_V sp ph d 201 [y_bi x4] m) (fun v1 m1 => if ¬ z_w v1 = z_w x2 then y_R sp ph d 266 114 [some (y_bo 11 0 a0), some (y_bi x1), some (y_bi x2), some (y_bi x3), some (y_bi x4)] [] m1 else y_bI (y_V sp ph d 264 [y_bo 11 0 a0, y_bi x4] m1) (fun v2 m2 => if ¬ z_w v2 = 0 then y_R sp ph d 266 62 [some (y_bo 11 0 a0), some (y_bi x1), some (y_bi x2), some (y_bi x3), some (y_bi x4)] [] m2 else y_R sp ph d 266 114 [some (y_bo 11 0 a0), some (y_bi x1), some (y_bi x2), some (y_bi x3), some (y_bi x4)] [] m2) (fun e m1 => y_px e m1)) (fun e m1 => y_px e m1) := by
  rw [y_R_eq (md := z_md_266) rfl rfl]
  exact (y_ic rfl (y_ic rfl (y_bIc fun v1 m1 => (y_sh (L' := [some (y_bo 11 0 a0), some (y_bi x1), some (y_bi x2), some (y_bi x3), some (y_bi x4)]) (S' := [y_bi v1]) rfl rfl (y_ic rfl (y_bIc fun v2 m2 => (y_sh (L' := [some (y_bo 11 0 a0), some (y_bi x1), some (y_bi x2), some (y_bi x3), some (y_bi x4)]) (S' := [y_bi v2]) rfl rfl rfl)))))))
set_option maxRecDepth 4000 in
theorem y_E_266_62 (d : Nat) (a0 : Nat) (x1 : Int) (x2 : Int) (x3 : Int) (x4 : Int) (m : y_m) : y_R sp ph d 266 62 [some (y_bo 11 0 a0), some (y_bi x1), some (y_bi x2), some (y_bi x3), some (y_bi x4)] [] m = if z_w x3 = (-1) then y_R sp ph d 266 111 [some (y_bo 11 0 a0), some (y_bi x1), some (y_bi x2), none, some (y_bi x4)] [] m else y_g (0 ≤ x4 ∧ x4 < (4096 : Int)) (y_g (0 ≤ z_iand x1 (z_ixor x4 (-1)) ∧ z_iand x1 (z_ixor x4 (-1)) < (4096 : Int)) (y_g (0 ≤ x3 ∧ x3 < (4096 : Int)) (y_g (0 ≤ z_iand x1 (z_ixor x3 (-1)) ∧ z_iand x1 (z_ixor x3 (-1)) < (4096 : Int)) (y_bI (y_V sp ph d 219 [y_bo 11 0 a0, y_bl ((y_mJ m 100 x4.toNat) + (y_mJ m 100 (z_iand x1 (z_ixor x4 (-1))).toNat)), y_bl ((y_mJ m 100 x3.toNat) + (y_mJ m 100 (z_iand x1 (z_ixor x3 (-1))).toNat)), y_bi 0] m) (fun v1 m1 => if z_w v1 = 0 then y_R sp ph d 266 114 [some (y_bo 11 0 a0), some (y_bi x1), some (y_bi x2), some (y_bi x3), some (y_bi x4)] [] m1 else y_R sp ph d 266 111 [some (y_bo 11 0 a0), some (y_bi x1), some (y_bi x2), none, some (y_bi x4)] [] m1) (fun e m1 => y_px e m1))))) := by
  rw [y_R_eq (md := z_md_266) rfl rfl]
  exact (y_ic rfl (y_gc (y_gc (y_gc (y_gc (y_bIc fun v1 m1 => (y_sh (L' := [some (y_bo 11 0 a0), some (y_bi x1), some (y_bi x2), some (y_bi x3), some (y_bi x4)]) (S' := [y_bi v1]) rfl rfl rfl)))))))
set_option maxRecDepth 4000 in
theorem y_E_266_111 (d : Nat) (a0 : Nat) (x1 : Int) (x2 : Int) (x4 : Int) (m : y_m) : y_R sp ph d 266 111 [some (y_bo 11 0 a0), some (y_bi x1), some (y_bi x2), none, some (y_bi x4)] [] m = y_R sp ph d 266 114 [some (y_bo 11 0 a0), some (y_bi x1), some (y_bi x2), some (y_bi x4), some (y_bi x4)] [] m := (y_R_eq (md := z_md_266) rfl rfl).trans rfl
set_option maxRecDepth 4000 in
theorem y_E_266_114 (d : Nat) (a0 : Nat) (x1 : Int) (x2 : Int) (x3 : Int) (x4 : Int) (m : y_m) : y_R sp ph d 266 114 [some (y_bo 11 0 a0), some (y_bi x1), some (y_bi x2), some (y_bi x3), some (y_bi x4)] [] m = y_R sp ph d 266 26 [some (y_bo 11 0 a0), some (y_bi x1), some (y_bi x2), some (y_bi x3), some (y_bi (x4 + 1))] [] m := (y_R_eq (md := z_md_266) rfl rfl).trans rfl
set_option maxRecDepth 4000 in
theorem y_E_266_120 (d : Nat) (x3 : Int) (m : y_m) : y_R sp ph d 266 120 [none, none, none, some (y_bi x3), none] [] m = y_rI x3 m := (y_R_eq (md := z_md_266) rfl rfl).trans rfl
set_option maxRecDepth 4000 in
theorem y_C_266 (d : Nat) (a0 : Nat) (m : y_m) : y_V sp ph (d + 1) 266 [y_bo 11 0 a0] m = y_R sp ph d 266 0 [some (y_bo 11 0 a0), none, none, none, none] [] m := (y_V_eq (md := z_md_266) rfl rfl rfl).trans rfl
/-! LacedHolesModel.becomes (II)I -/
set_option maxRecDepth 4000 in
theorem y_E_267_0 (d : Nat) (a0 : Nat) (x1 : Int) (x2 : Int) (m : y_m) : y_R sp ph d 267 0 [some (y_bo 11 0 a0), some (y_bi x1), some (y_bi x2), none] [] m = if ¬ z_w (z_iand x2 1) = 1 then y_R sp ph d 267 24 [some (y_bo 11 0 a0), some (y_bi x1), some (y_bi x2), none] [] m else y_bI (y_V sp ph d 210 [y_bo 11 0 a0, y_bi x1] m) (fun v1 m1 => y_R sp ph d 267 29 [some (y_bo 11 0 a0), some (y_bi x1), some (y_bi x2), none] [y_bi (((y_mI m 52 0) - 1) - v1)] m1) (fun e m1 => y_px e m1) := by
  rw [y_R_eq (md := z_md_267) rfl rfl]
  exact (y_ic rfl (y_bIc fun v1 m1 => (y_sh (L' := [some (y_bo 11 0 a0), some (y_bi x1), some (y_bi x2), none]) (S' := [y_bi v1, y_bi ((y_mI m 52 0) - 1)]) rfl rfl rfl)))
set_option maxRecDepth 4000 in
theorem y_E_267_24 (d : Nat) (a0 : Nat) (x1 : Int) (x2 : Int) (m : y_m) : y_R sp ph d 267 24 [some (y_bo 11 0 a0), some (y_bi x1), some (y_bi x2), none] [] m = y_bI (y_V sp ph d 210 [y_bo 11 0 a0, y_bi x1] m) (fun v1 m1 => y_R sp ph d 267 29 [some (y_bo 11 0 a0), some (y_bi x1), some (y_bi x2), none] [y_bi v1] m1) (fun e m1 => y_px e m1) := by
  rw [y_R_eq (md := z_md_267) rfl rfl]
  exact (y_bIc fun v1 m1 => (y_sh (L' := [some (y_bo 11 0 a0), some (y_bi x1), some (y_bi x2), none]) (S' := [y_bi v1]) rfl rfl rfl))
set_option maxRecDepth 4000 in
theorem y_E_267_29 (d : Nat) (a0 : Nat) (x1 : Int) (x2 : Int) (xs0 : Int) (m : y_m) : y_R sp ph d 267 29 [some (y_bo 11 0 a0), some (y_bi x1), some (y_bi x2), none] [y_bi xs0] m = y_bI (y_V sp ph d 209 [y_bo 11 0 a0, y_bi x1] m) (fun v1 m1 => if ¬ z_w (z_iand x2 2) = 0 then y_R sp ph d 267 45 [some (y_bo 11 0 a0), none, none, some (y_bi xs0)] [y_bi v1] m1 else y_R sp ph d 267 46 [some (y_bo 11 0 a0), none, none, some (y_bi xs0)] [y_bi 1, y_bi v1] m1) (fun e m1 => y_px e m1) := by
  rw [y_R_eq (md := z_md_267) rfl rfl]
  exact (y_bIc fun v1 m1 => (y_sh (L' := [some (y_bo 11 0 a0), some (y_bi x1), some (y_bi x2), some (y_bi xs0)]) (S' := [y_bi v1]) rfl rfl rfl))
set_option maxRecDepth 4000 in
theorem y_E_267_45 (d : Nat) (a0 : Nat) (x3 : Int) (xs0 : Int) (m : y_m) : y_R sp ph d 267 45 [some (y_bo 11 0 a0), none, none, some (y_bi x3)] [y_bi xs0] m = y_R sp ph d 267 46 [some (y_bo 11 0 a0), none, none, some (y_bi x3)] [y_bi 0, y_bi xs0] m := (y_R_eq (md := z_md_267) rfl rfl).trans rfl
set_option maxRecDepth 4000 in
theorem y_E_267_46 (d : Nat) (a0 : Nat) (x3 : Int) (xs0 : Int) (xs1 : Int) (m : y_m) : y_R sp ph d 267 46 [some (y_bo 11 0 a0), none, none, some (y_bi x3)] [y_bi xs0, y_bi xs1] m = if ¬ z_w xs1 = z_w xs0 then y_R sp ph d 267 53 [some (y_bo 11 0 a0), none, none, some (y_bi x3)] [] m else y_R sp ph d 267 61 [none, none, none, none] [y_bi x3] m := (y_R_eq (md := z_md_267) rfl rfl).trans rfl
set_option maxRecDepth 4000 in
theorem y_E_267_53 (d : Nat) (a0 : Nat) (x3 : Int) (m : y_m) : y_R sp ph d 267 53 [some (y_bo 11 0 a0), none, none, some (y_bi x3)] [] m = y_R sp ph d 267 61 [none, none, none, none] [y_bi ((y_mI m 52 0) + x3)] m := (y_R_eq (md := z_md_267) rfl rfl).trans rfl
set_option maxRecDepth 4000 in
theorem y_E_267_61 (d : Nat) (xs0 : Int) (m : y_m) : y_R sp ph d 267 61 [none, none, none, none] [y_bi xs0] m = y_rI xs0 m := (y_R_eq (md := z_md_267) rfl rfl).trans rfl
set_option maxRecDepth 4000 in
theorem y_C_267 (d : Nat) (a0 : Nat) (x1 : Int) (x2 : Int) (m : y_m) : y_V sp ph (d + 1) 267 [y_bo 11 0 a0, y_bi x1, y_bi x2] m = y_R sp ph d 267 0 [some (y_bo 11 0 a0), some (y_bi x1), some (y_bi x2), none] [] m := (y_V_eq (md := z_md_267) rfl rfl rfl).trans rfl
/-! LacedHolesModel.standsTo ([III)I -/
set_option maxRecDepth 4000 in
theorem y_E_268_0 (d : Nat) (a0 : Nat) (a1 : Nat) (n1 : Nat) (x2 : Int) (x3 : Int) (m : y_m) : y_R sp ph d 268 0 [some (y_bo 11 0 a0), some (y_bo 100 n1 a1), some (y_bi x2), some (y_bi x3), none] [] m = y_R sp ph d 268 3 [some (y_bo 11 0 a0), some (y_bo 100 n1 a1), some (y_bi x2), some (y_bi x3), some (y_bi 0)] [] m := (y_R_eq (md := z_md_268) rfl rfl).trans rfl
set_option maxRecDepth 4000 in
theorem y_E_268_3 (d : Nat) (a0 : Nat) (a1 : Nat) (n1 : Nat) (x2 : Int) (x3 : Int) (x4 : Int) (m : y_m) : y_R sp ph d 268 3 [some (y_bo 11 0 a0), some (y_bo 100 n1 a1), some (y_bi x2), some (y_bi x3), some (y_bi x4)] [] m = if z_w x2 ≤ z_w x4 then y_R sp ph d 268 31 [some (y_bo 11 0 a0), some (y_bo 100 n1 a1), some (y_bi x2), none, none] [] m else y_g (0 ≤ x4 ∧ x4 < (n1 : Int)) (y_bI (y_V sp ph d 267 [y_bo 11 0 a0, y_bi (y_mI m a1 x4.toNat), y_bi x3] m) (fun v1 m1 => y_g (0 ≤ x4 ∧ x4 < (12 : Int)) (y_R sp ph d 268 3 [some (y_bo 11 0 a0), some (y_bo 100 n1 a1), some (y_bi x2), some (y_bi x3), some (y_bi (x4 + 1))] [] (y_sI m1 101 x4.toNat v1))) (fun e m1 => y_px e m1)) := by
  rw [y_R_eq (md := z_md_268) rfl rfl]
  exact (y_ic rfl (y_gc (y_bIc fun v1 m1 => (y_sh (L' := [some (y_bo 11 0 a0), some (y_bo 100 n1 a1), some (y_bi x2), some (y_bi x3), some (y_bi x4)]) (S' := [y_bi v1, y_bi x4, y_bo 100 12 101]) rfl rfl rfl))))
set_option maxRecDepth 4000 in
theorem y_E_268_31 (d : Nat) (a0 : Nat) (a1 : Nat) (n1 : Nat) (x2 : Int) (m : y_m) : y_R sp ph d 268 31 [some (y_bo 11 0 a0), some (y_bo 100 n1 a1), some (y_bi x2), none, none] [] m = y_bV (y_V sp ph d 247 [y_bo 11 0 a0, y_bo 100 12 101, y_bi x2] m) (fun m1 => y_R sp ph d 268 43 [some (y_bo 11 0 a0), some (y_bo 100 n1 a1), some (y_bi x2), none, some (y_bi 0)] [] m1) (fun e m1 => y_px e m1) := by
  rw [y_R_eq (md := z_md_268) rfl rfl]
  exact (y_bVc fun m1 => (y_sh (L' := [some (y_bo 11 0 a0), some (y_bo 100 n1 a1), some (y_bi x2), none, none]) (S' := []) rfl rfl rfl))
set_option maxRecDepth 4000 in
theorem y_E_268_43 (d : Nat) (a0 : Nat) (a1 : Nat) (n1 : Nat) (x2 : Int) (x4 : Int) (m : y_m) : y_R sp ph d 268 43 [some (y_bo 11 0 a0), some (y_bo 100 n1 a1), some (y_bi x2), none, some (y_bi x4)] [] m = if z_w x2 ≤ z_w x4 then y_R sp ph d 268 89 [none, none, none, none, none] [] m else y_g (0 ≤ x4 ∧ x4 < (12 : Int)) (y_g (0 ≤ x4 ∧ x4 < (n1 : Int)) (if z_w (y_mI m 98 x4.toNat) = z_w (y_mI m a1 x4.toNat) then y_R sp ph d 268 83 [some (y_bo 11 0 a0), some (y_bo 100 n1 a1), some (y_bi x2), none, some (y_bi x4)] [] m else y_g (0 ≤ x4 ∧ x4 < (n1 : Int)) (y_g (0 ≤ x4 ∧ x4 < (12 : Int)) (if z_w (y_mI m 98 x4.toNat) ≤ z_w (y_mI m a1 x4.toNat) then y_R sp ph d 268 81 [none, none, none, none, none] [] m else y_R sp ph d 268 82 [none, none, none, none, none] [y_bi (-1)] m)))) := (y_R_eq (md := z_md_268) rfl rfl).trans rfl
set_option maxRecDepth 4000 in
theorem y_E_268_81 (d : Nat) (m : y_m) : y_R sp ph d 268 81 [none, none, none, none, none] [] m = y_R sp ph d 268 82 [none, none, none, none, none] [y_bi 1] m := (y_R_eq (md := z_md_268) rfl rfl).trans rfl
set_option maxRecDepth 4000 in
theorem y_E_268_82 (d : Nat) (xs0 : Int) (m : y_m) : y_R sp ph d 268 82 [none, none, none, none, none] [y_bi xs0] m = y_rI xs0 m := (y_R_eq (md := z_md_268) rfl rfl).trans rfl
set_option maxRecDepth 4000 in
theorem y_E_268_83 (d : Nat) (a0 : Nat) (a1 : Nat) (n1 : Nat) (x2 : Int) (x4 : Int) (m : y_m) : y_R sp ph d 268 83 [some (y_bo 11 0 a0), some (y_bo 100 n1 a1), some (y_bi x2), none, some (y_bi x4)] [] m = y_R sp ph d 268 43 [some (y_bo 11 0 a0), some (y_bo 100 n1 a1), some (y_bi x2), none, some (y_bi (x4 + 1))] [] m := (y_R_eq (md := z_md_268) rfl rfl).trans rfl
set_option maxRecDepth 4000 in
theorem y_E_268_89 (d : Nat) (m : y_m) : y_R sp ph d 268 89 [none, none, none, none, none] [] m = y_rI 0 m := (y_R_eq (md := z_md_268) rfl rfl).trans rfl
set_option maxRecDepth 4000 in
theorem y_C_268 (d : Nat) (a0 : Nat) (a1 : Nat) (n1 : Nat) (x2 : Int) (x3 : Int) (m : y_m) : y_V sp ph (d + 1) 268 [y_bo 11 0 a0, y_bo 100 n1 a1, y_bi x2, y_bi x3] m = y_R sp ph d 268 0 [some (y_bo 11 0 a0), some (y_bo 100 n1 a1), some (y_bi x2), some (y_bi x3), none] [] m := (y_V_eq (md := z_md_268) rfl rfl rfl).trans rfl
/-! LacedHolesModel.tries (II)V -/
set_option maxRecDepth 4000 in
theorem y_E_269_0 (d : Nat) (a0 : Nat) (x1 : Int) (x2 : Int) (m : y_m) : y_R sp ph d 269 0 [some (y_bo 11 0 a0), some (y_bi x1), some (y_bi x2), none] [] m = if ¬ z_w x2 = z_w (y_mI m a0 33) then y_R sp ph d 269 127 [some (y_bo 11 0 a0), some (y_bi x1), some (y_bi x2), none] [] m else y_g (0 ≤ x2 - 1 ∧ x2 - 1 < (12 : Int)) (if z_w (y_mI m 102 1) ≤ z_w (y_mI m 102 (x2 - 1).toNat) then y_R sp ph d 269 26 [some (y_bo 11 0 a0), none, some (y_bi x2), none] [] m else y_rV m) := (y_R_eq (md := z_md_269) rfl rfl).trans rfl
set_option maxRecDepth 4000 in
theorem y_E_269_26 (d : Nat) (a0 : Nat) (x2 : Int) (m : y_m) : y_R sp ph d 269 26 [some (y_bo 11 0 a0), none, some (y_bi x2), none] [] m = y_R sp ph d 269 28 [some (y_bo 11 0 a0), none, some (y_bi x2), some (y_bi 0)] [] m := (y_R_eq (md := z_md_269) rfl rfl).trans rfl
set_option maxRecDepth 4000 in
theorem y_E_269_28 (d : Nat) (a0 : Nat) (x2 : Int) (x3 : Int) (m : y_m) : y_R sp ph d 269 28 [some (y_bo 11 0 a0), none, some (y_bi x2), some (y_bi x3)] [] m = if z_w x2 ≤ z_w x3 then y_R sp ph d 269 89 [some (y_bo 11 0 a0), none, some (y_bi x2), none] [] m else y_g (z_w x2 ≠ 0) (y_g (0 ≤ z_irem ((x3 + x2) - 1) x2 ∧ z_irem ((x3 + x2) - 1) x2 < (12 : Int)) (y_g (0 ≤ x3 ∧ x3 < (12 : Int)) (y_bI (y_V sp ph d 211 [y_bo 11 0 a0, y_bi (y_mI m 102 (z_irem ((x3 + x2) - 1) x2).toNat), y_bi (y_mI m 102 x3.toNat)] m) (fun v1 m1 => y_g (0 ≤ x3 ∧ x3 < (12 : Int)) (y_g (z_w x2 ≠ 0) (y_g (0 ≤ z_irem (x3 + 1) x2 ∧ z_irem (x3 + 1) x2 < (12 : Int)) (y_bI (y_V sp ph d 211 [y_bo 11 0 a0, y_bi (y_mI m1 102 x3.toNat), y_bi (y_mI m1 102 (z_irem (x3 + 1) x2).toNat)] m1) (fun v2 m2 => y_bI (y_V sp ph d 227 [y_bo 11 0 a0, y_bi v1, y_bi v2] m2) (fun v3 m3 => if ¬ z_w v3 = 0 then y_R sp ph d 269 83 [some (y_bo 11 0 a0), none, some (y_bi x2), some (y_bi x3)] [] m3 else y_rV m3) (fun e m1 => y_px e m1)) (fun e m1 => y_px e m1))))) (fun e m1 => y_px e m1)))) := by
  rw [y_R_eq (md := z_md_269) rfl rfl]
  exact (y_ic rfl (y_gc (y_gc (y_gc (y_bIc fun v1 m1 => (y_sh (L' := [some (y_bo 11 0 a0), none, some (y_bi x2), some (y_bi x3)]) (S' := [y_bi v1, y_bo 11 0 a0]) rfl rfl (y_gc (y_gc (y_gc (y_bIc fun v2 m2 => (y_sh (L' := [some (y_bo 11 0 a0), none, some (y_bi x2), some (y_bi x3)]) (S' := [y_bi v2, y_bi v1, y_bo 11 0 a0]) rfl rfl (y_bIc fun v3 m3 => (y_sh (L' := [some (y_bo 11 0 a0), none, some (y_bi x2), some (y_bi x3)]) (S' := [y_bi v3]) rfl rfl rfl)))))))))))))
set_option maxRecDepth 4000 in
theorem y_E_269_83 (d : Nat) (a0 : Nat) (x2 : Int) (x3 : Int) (m : y_m) : y_R sp ph d 269 83 [some (y_bo 11 0 a0), none, some (y_bi x2), some (y_bi x3)] [] m = y_R sp ph d 269 28 [some (y_bo 11 0 a0), none, some (y_bi x2), some (y_bi (x3 + 1))] [] m := (y_R_eq (md := z_md_269) rfl rfl).trans rfl
set_option maxRecDepth 4000 in
theorem y_E_269_89 (d : Nat) (a0 : Nat) (x2 : Int) (m : y_m) : y_R sp ph d 269 89 [some (y_bo 11 0 a0), none, some (y_bi x2), none] [] m = y_R sp ph d 269 91 [some (y_bo 11 0 a0), none, some (y_bi x2), some (y_bi 1)] [] m := (y_R_eq (md := z_md_269) rfl rfl).trans rfl
set_option maxRecDepth 4000 in
theorem y_E_269_91 (d : Nat) (a0 : Nat) (x2 : Int) (x3 : Int) (m : y_m) : y_R sp ph d 269 91 [some (y_bo 11 0 a0), none, some (y_bi x2), some (y_bi x3)] [] m = if 4 ≤ z_w x3 then y_R sp ph d 269 116 [some (y_bo 11 0 a0), none, none, none] [] m else y_bI (y_V sp ph d 268 [y_bo 11 0 a0, y_bo 100 12 102, y_bi x2, y_bi x3] m) (fun v1 m1 => if z_w v1 ≤ 0 then y_R sp ph d 269 110 [some (y_bo 11 0 a0), none, some (y_bi x2), some (y_bi x3)] [] m1 else y_rV m1) (fun e m1 => y_px e m1) := by
  rw [y_R_eq (md := z_md_269) rfl rfl]
  exact (y_ic rfl (y_bIc fun v1 m1 => (y_sh (L' := [some (y_bo 11 0 a0), none, some (y_bi x2), some (y_bi x3)]) (S' := [y_bi v1]) rfl rfl rfl)))
set_option maxRecDepth 4000 in
theorem y_E_269_110 (d : Nat) (a0 : Nat) (x2 : Int) (x3 : Int) (m : y_m) : y_R sp ph d 269 110 [some (y_bo 11 0 a0), none, some (y_bi x2), some (y_bi x3)] [] m = y_R sp ph d 269 91 [some (y_bo 11 0 a0), none, some (y_bi x2), some (y_bi (x3 + 1))] [] m := (y_R_eq (md := z_md_269) rfl rfl).trans rfl
set_option maxRecDepth 4000 in
theorem y_E_269_116 (d : Nat) (a0 : Nat) (m : y_m) : y_R sp ph d 269 116 [some (y_bo 11 0 a0), none, none, none] [] m = y_rV (y_sI m a0 42 ((y_mI m a0 42) + 1)) := (y_R_eq (md := z_md_269) rfl rfl).trans rfl
set_option maxRecDepth 4000 in
theorem y_E_269_127 (d : Nat) (a0 : Nat) (x1 : Int) (x2 : Int) (m : y_m) : y_R sp ph d 269 127 [some (y_bo 11 0 a0), some (y_bi x1), some (y_bi x2), none] [] m = y_R sp ph d 269 129 [some (y_bo 11 0 a0), some (y_bi x1), some (y_bi x2), some (y_bi 1)] [] m := (y_R_eq (md := z_md_269) rfl rfl).trans rfl
set_option maxRecDepth 4000 in
theorem y_E_269_129 (d : Nat) (a0 : Nat) (x1 : Int) (x2 : Int) (x3 : Int) (m : y_m) : y_R sp ph d 269 129 [some (y_bo 11 0 a0), some (y_bi x1), some (y_bi x2), some (y_bi x3)] [] m = if z_w (y_mI m a0 33) ≤ z_w x3 then y_R sp ph d 269 174 [none, none, none, none] [] m else if ¬ z_w (z_iand (z_ishr x1 x3) 1) = 1 then y_R sp ph d 269 149 [some (y_bo 11 0 a0), some (y_bi x1), some (y_bi x2), some (y_bi x3)] [] m else y_R sp ph d 269 168 [some (y_bo 11 0 a0), some (y_bi x1), some (y_bi x2), some (y_bi x3)] [] m := (y_R_eq (md := z_md_269) rfl rfl).trans rfl
set_option maxRecDepth 4000 in
theorem y_E_269_149 (d : Nat) (a0 : Nat) (x1 : Int) (x2 : Int) (x3 : Int) (m : y_m) : y_R sp ph d 269 149 [some (y_bo 11 0 a0), some (y_bi x1), some (y_bi x2), some (y_bi x3)] [] m = y_g (0 ≤ x2 ∧ x2 < (12 : Int)) (y_bV (y_V sp ph d 269 [y_bo 11 0 a0, y_bi (z_ior x1 (z_ishl 1 x3)), y_bi (x2 + 1)] (y_sI m 102 x2.toNat x3)) (fun m1 => y_R sp ph d 269 168 [some (y_bo 11 0 a0), some (y_bi x1), some (y_bi x2), some (y_bi x3)] [] m1) (fun e m1 => y_px e m1)) := by
  rw [y_R_eq (md := z_md_269) rfl rfl]
  exact (y_gc (y_bVc fun m1 => (y_sh (L' := [some (y_bo 11 0 a0), some (y_bi x1), some (y_bi x2), some (y_bi x3)]) (S' := []) rfl rfl rfl)))
set_option maxRecDepth 4000 in
theorem y_E_269_168 (d : Nat) (a0 : Nat) (x1 : Int) (x2 : Int) (x3 : Int) (m : y_m) : y_R sp ph d 269 168 [some (y_bo 11 0 a0), some (y_bi x1), some (y_bi x2), some (y_bi x3)] [] m = y_R sp ph d 269 129 [some (y_bo 11 0 a0), some (y_bi x1), some (y_bi x2), some (y_bi (x3 + 1))] [] m := (y_R_eq (md := z_md_269) rfl rfl).trans rfl
set_option maxRecDepth 4000 in
theorem y_E_269_174 (d : Nat) (m : y_m) : y_R sp ph d 269 174 [none, none, none, none] [] m = y_rV m := (y_R_eq (md := z_md_269) rfl rfl).trans rfl
set_option maxRecDepth 4000 in
theorem y_C_269 (d : Nat) (a0 : Nat) (x1 : Int) (x2 : Int) (m : y_m) : y_V sp ph (d + 1) 269 [y_bo 11 0 a0, y_bi x1, y_bi x2] m = y_R sp ph d 269 0 [some (y_bo 11 0 a0), some (y_bi x1), some (y_bi x2), none] [] m := (y_V_eq (md := z_md_269) rfl rfl rfl).trans rfl
/-! LacedHolesModel.canTurn ()Z -/
set_option maxRecDepth 4000 in
theorem y_E_270_0 (d : Nat) (a0 : Nat) (m : y_m) : y_R sp ph d 270 0 [some (y_bo 11 0 a0)] [] m = if ¬ z_w (y_mI m 52 0) = z_w (y_mI m 52 1) then y_R sp ph d 270 29 [none] [] m else if ¬ z_w (y_mI m 52 6) = 0 then y_R sp ph d 270 29 [none] [] m else y_R sp ph d 270 30 [none] [y_bi 1] m := (y_R_eq (md := z_md_270) rfl rfl).trans rfl
set_option maxRecDepth 4000 in
theorem y_E_270_29 (d : Nat) (m : y_m) : y_R sp ph d 270 29 [none] [] m = y_R sp ph d 270 30 [none] [y_bi 0] m := (y_R_eq (md := z_md_270) rfl rfl).trans rfl
set_option maxRecDepth 4000 in
theorem y_E_270_30 (d : Nat) (xs0 : Int) (m : y_m) : y_R sp ph d 270 30 [none] [y_bi xs0] m = y_g (xs0 = 0 ∨ xs0 = 1) (y_rI xs0 m) := (y_R_eq (md := z_md_270) rfl rfl).trans rfl
set_option maxRecDepth 4000 in
theorem y_C_270 (d : Nat) (a0 : Nat) (m : y_m) : y_V sp ph (d + 1) 270 [y_bo 11 0 a0] m = y_R sp ph d 270 0 [some (y_bo 11 0 a0)] [] m := (y_V_eq (md := z_md_270) rfl rfl rfl).trans rfl
/-! LacedHolesModel.alike ()I -/
set_option maxRecDepth 4000 in
theorem y_E_271_0 (d : Nat) (a0 : Nat) (m : y_m) : y_R sp ph d 271 0 [some (y_bo 11 0 a0)] [] m = y_bI (y_V sp ph d 270 [y_bo 11 0 a0] (y_sI m a0 0 0)) (fun v1 m1 => if z_w v1 = 0 then y_R sp ph d 271 21 [none] [] m1 else y_bI (y_V sp ph d 199 [y_bo 11 0 a0] m1) (fun v2 m2 => if z_w v2 ≤ 8 then y_R sp ph d 271 23 [some (y_bo 11 0 a0)] [] m2 else y_R sp ph d 271 21 [none] [] m2) (fun e m1 => y_px e m1)) (fun e m1 => y_px e m1) := by
  rw [y_R_eq (md := z_md_271) rfl rfl]
  exact (y_bIc fun v1 m1 => (y_sh (L' := [some (y_bo 11 0 a0)]) (S' := [y_bi v1]) rfl rfl (y_ic rfl (y_bIc fun v2 m2 => (y_sh (L' := [some (y_bo 11 0 a0)]) (S' := [y_bi v2]) rfl rfl rfl)))))
set_option maxRecDepth 4000 in
theorem y_E_271_21 (d : Nat) (m : y_m) : y_R sp ph d 271 21 [none] [] m = y_rI (-1) m := (y_R_eq (md := z_md_271) rfl rfl).trans rfl
set_option maxRecDepth 4000 in
theorem y_E_271_23 (d : Nat) (a0 : Nat) (m : y_m) : y_R sp ph d 271 23 [some (y_bo 11 0 a0)] [] m = y_bI (y_V sp ph d 199 [y_bo 11 0 a0] (y_sI m a0 42 0)) (fun v1 m1 => if z_w (y_mI (y_sI (y_sI m1 a0 33 v1) 102 0 0) a0 33) ≤ 2 then y_R sp ph d 271 57 [some (y_bo 11 0 a0)] [] (y_sI (y_sI m1 a0 33 v1) 102 0 0) else y_bV (y_V sp ph d 269 [y_bo 11 0 a0, y_bi 1, y_bi 1] (y_sI (y_sI m1 a0 33 v1) 102 0 0)) (fun m2 => y_R sp ph d 271 57 [some (y_bo 11 0 a0)] [] m2) (fun e m1 => y_px e m1)) (fun e m1 => y_px e m1) := by
  rw [y_R_eq (md := z_md_271) rfl rfl]
  exact (y_bIc fun v1 m1 => (y_sh (L' := [some (y_bo 11 0 a0)]) (S' := [y_bi v1, y_bo 11 0 a0]) rfl rfl (y_ic rfl (y_bVc fun m2 => (y_sh (L' := [some (y_bo 11 0 a0)]) (S' := []) rfl rfl rfl)))))
set_option maxRecDepth 4000 in
theorem y_E_271_57 (d : Nat) (a0 : Nat) (m : y_m) : y_R sp ph d 271 57 [some (y_bo 11 0 a0)] [] m = y_rI (y_mI m a0 42) m := (y_R_eq (md := z_md_271) rfl rfl).trans rfl
set_option maxRecDepth 4000 in
theorem y_C_271 (d : Nat) (a0 : Nat) (m : y_m) : y_V sp ph (d + 1) 271 [y_bo 11 0 a0] m = y_R sp ph d 271 0 [some (y_bo 11 0 a0)] [] m := (y_V_eq (md := z_md_271) rfl rfl rfl).trans rfl
/-! LacedHolesModel.itself ()I -/
set_option maxRecDepth 4000 in
theorem y_E_272_0 (d : Nat) (a0 : Nat) (m : y_m) : y_R sp ph d 272 0 [some (y_bo 11 0 a0), none, none] [] m = y_bI (y_V sp ph d 230 [y_bo 11 0 a0] (y_sI m a0 0 0)) (fun v1 m1 => if z_w v1 = 0 then y_R sp ph d 272 14 [some (y_bo 11 0 a0), none, none] [] m1 else y_rI 0 m1) (fun e m1 => y_px e m1) := by
  rw [y_R_eq (md := z_md_272) rfl rfl]
  exact (y_bIc fun v1 m1 => (y_sh (L' := [some (y_bo 11 0 a0), none, none]) (S' := [y_bi v1]) rfl rfl rfl))
set_option maxRecDepth 4000 in
theorem y_E_272_14 (d : Nat) (a0 : Nat) (m : y_m) : y_R sp ph d 272 14 [some (y_bo 11 0 a0), none, none] [] m = y_bI (y_V sp ph d 270 [y_bo 11 0 a0] m) (fun v1 m1 => if ¬ z_w v1 = 0 then y_R sp ph d 272 23 [some (y_bo 11 0 a0), none, none] [] m1 else y_rI (-1) m1) (fun e m1 => y_px e m1) := by
  rw [y_R_eq (md := z_md_272) rfl rfl]
  exact (y_bIc fun v1 m1 => (y_sh (L' := [some (y_bo 11 0 a0), none, none]) (S' := [y_bi v1]) rfl rfl rfl))
set_option maxRecDepth 4000 in
theorem y_E_272_23 (d : Nat) (a0 : Nat) (m : y_m) : y_R sp ph d 272 23 [some (y_bo 11 0 a0), none, none] [] m = y_bV (y_V sp ph d 247 [y_bo 11 0 a0, y_bo 100 12 54, y_bi (y_mI m a0 13)] m) (fun m1 => y_R sp ph d 272 39 [some (y_bo 11 0 a0), some (y_bi 0), some (y_bi 0)] [] m1) (fun e m1 => y_px e m1) := by
  rw [y_R_eq (md := z_md_272) rfl rfl]
  exact (y_bVc fun m1 => (y_sh (L' := [some (y_bo 11 0 a0), some (y_bi 0), none]) (S' := []) rfl rfl rfl))
set_option maxRecDepth 4000 in
theorem y_E_272_39 (d : Nat) (a0 : Nat) (x1 : Int) (x2 : Int) (m : y_m) : y_R sp ph d 272 39 [some (y_bo 11 0 a0), some (y_bi x1), some (y_bi x2)] [] m = if z_w (y_mI m a0 13) ≤ z_w x2 then y_R sp ph d 272 65 [some (y_bo 11 0 a0), some (y_bi x1), none] [] m else y_g (0 ≤ x2 ∧ x2 < (12 : Int)) (y_g (0 ≤ x2 ∧ x2 < (12 : Int)) (y_R sp ph d 272 39 [some (y_bo 11 0 a0), some (y_bi x1), some (y_bi (x2 + 1))] [] (y_sI m 102 x2.toNat (y_mI m 98 x2.toNat)))) := (y_R_eq (md := z_md_272) rfl rfl).trans rfl
set_option maxRecDepth 4000 in
theorem y_E_272_65 (d : Nat) (a0 : Nat) (x1 : Int) (m : y_m) : y_R sp ph d 272 65 [some (y_bo 11 0 a0), some (y_bi x1), none] [] m = y_R sp ph d 272 67 [some (y_bo 11 0 a0), some (y_bi x1), some (y_bi 0)] [] m := (y_R_eq (md := z_md_272) rfl rfl).trans rfl
set_option maxRecDepth 4000 in
theorem y_E_272_67 (d : Nat) (a0 : Nat) (x1 : Int) (x2 : Int) (m : y_m) : y_R sp ph d 272 67 [some (y_bo 11 0 a0), some (y_bi x1), some (y_bi x2)] [] m = if 4 ≤ z_w x2 then y_R sp ph d 272 102 [none, some (y_bi x1), none] [] m else y_bI (y_V sp ph d 268 [y_bo 11 0 a0, y_bo 100 12 102, y_bi (y_mI m a0 13), y_bi x2] m) (fun v1 m1 => if ¬ z_w v1 = 0 then y_R sp ph d 272 93 [some (y_bo 11 0 a0), none, some (y_bi x2)] [y_bi x1] m1 else y_R sp ph d 272 94 [some (y_bo 11 0 a0), none, some (y_bi x2)] [y_bi 1, y_bi x1] m1) (fun e m1 => y_px e m1) := by
  rw [y_R_eq (md := z_md_272) rfl rfl]
  exact (y_ic rfl (y_bIc fun v1 m1 => (y_sh (L' := [some (y_bo 11 0 a0), some (y_bi x1), some (y_bi x2)]) (S' := [y_bi v1, y_bi x1]) rfl rfl rfl)))
set_option maxRecDepth 4000 in
theorem y_E_272_93 (d : Nat) (a0 : Nat) (x2 : Int) (xs0 : Int) (m : y_m) : y_R sp ph d 272 93 [some (y_bo 11 0 a0), none, some (y_bi x2)] [y_bi xs0] m = y_R sp ph d 272 94 [some (y_bo 11 0 a0), none, some (y_bi x2)] [y_bi 0, y_bi xs0] m := (y_R_eq (md := z_md_272) rfl rfl).trans rfl
set_option maxRecDepth 4000 in
theorem y_E_272_94 (d : Nat) (a0 : Nat) (x2 : Int) (xs0 : Int) (xs1 : Int) (m : y_m) : y_R sp ph d 272 94 [some (y_bo 11 0 a0), none, some (y_bi x2)] [y_bi xs0, y_bi xs1] m = y_R sp ph d 272 67 [some (y_bo 11 0 a0), some (y_bi (xs1 + xs0)), some (y_bi (x2 + 1))] [] m := (y_R_eq (md := z_md_272) rfl rfl).trans rfl
set_option maxRecDepth 4000 in
theorem y_E_272_102 (d : Nat) (x1 : Int) (m : y_m) : y_R sp ph d 272 102 [none, some (y_bi x1), none] [] m = y_rI x1 m := (y_R_eq (md := z_md_272) rfl rfl).trans rfl
set_option maxRecDepth 4000 in
theorem y_C_272 (d : Nat) (a0 : Nat) (m : y_m) : y_V sp ph (d + 1) 272 [y_bo 11 0 a0] m = y_R sp ph d 272 0 [some (y_bo 11 0 a0), none, none] [] m := (y_V_eq (md := z_md_272) rfl rfl rfl).trans rfl
/-! LacedHolesModel.isIn (I)Z -/
set_option maxRecDepth 4000 in
theorem y_E_273_0 (d : Nat) (a0 : Nat) (x1 : Int) (m : y_m) : y_R sp ph d 273 0 [some (y_bo 11 0 a0), some (y_bi x1), none] [] m = y_R sp ph d 273 2 [some (y_bo 11 0 a0), some (y_bi x1), some (y_bi 0)] [] m := (y_R_eq (md := z_md_273) rfl rfl).trans rfl
set_option maxRecDepth 4000 in
theorem y_E_273_2 (d : Nat) (a0 : Nat) (x1 : Int) (x2 : Int) (m : y_m) : y_R sp ph d 273 2 [some (y_bo 11 0 a0), some (y_bi x1), some (y_bi x2)] [] m = if z_w (y_mI m a0 14) ≤ z_w x2 then y_R sp ph d 273 42 [none, none, none] [] m else y_g (0 ≤ x2 ∧ x2 < (6 : Int)) (if z_w (y_mI m (56 + 1 * x2.toNat) 0) = z_w x1 then y_R sp ph d 273 34 [none, none, none] [] m else y_g (0 ≤ x2 ∧ x2 < (6 : Int)) (if ¬ z_w (y_mI m (56 + 1 * x2.toNat) 1) = z_w x1 then y_R sp ph d 273 36 [some (y_bo 11 0 a0), some (y_bi x1), some (y_bi x2)] [] m else y_R sp ph d 273 34 [none, none, none] [] m)) := (y_R_eq (md := z_md_273) rfl rfl).trans rfl
set_option maxRecDepth 4000 in
theorem y_E_273_34 (d : Nat) (m : y_m) : y_R sp ph d 273 34 [none, none, none] [] m = y_rI 1 m := (y_R_eq (md := z_md_273) rfl rfl).trans rfl
set_option maxRecDepth 4000 in
theorem y_E_273_36 (d : Nat) (a0 : Nat) (x1 : Int) (x2 : Int) (m : y_m) : y_R sp ph d 273 36 [some (y_bo 11 0 a0), some (y_bi x1), some (y_bi x2)] [] m = y_R sp ph d 273 2 [some (y_bo 11 0 a0), some (y_bi x1), some (y_bi (x2 + 1))] [] m := (y_R_eq (md := z_md_273) rfl rfl).trans rfl
set_option maxRecDepth 4000 in
theorem y_E_273_42 (d : Nat) (m : y_m) : y_R sp ph d 273 42 [none, none, none] [] m = y_rI 0 m := (y_R_eq (md := z_md_273) rfl rfl).trans rfl
set_option maxRecDepth 4000 in
theorem y_C_273 (d : Nat) (a0 : Nat) (x1 : Int) (m : y_m) : y_V sp ph (d + 1) 273 [y_bo 11 0 a0, y_bi x1] m = y_R sp ph d 273 0 [some (y_bo 11 0 a0), some (y_bi x1), none] [] m := (y_V_eq (md := z_md_273) rfl rfl rfl).trans rfl
/-! LacedHolesModel.see (II)I -/
set_option maxRecDepth 4000 in
theorem y_E_274_0 (d : Nat) (a0 : Nat) (x1 : Int) (x2 : Int) (m : y_m) : y_R sp ph d 274 0 [some (y_bo 11 0 a0), some (y_bi x1), some (y_bi x2)] [] m = y_bI (y_V sp ph d 199 [y_bo 11 0 a0] (y_sI m a0 0 0)) (fun v1 m1 => y_bI (y_V sp ph d 180 [y_bi x1, y_bi 0, y_bi (v1 - 1)] m1) (fun v2 m2 => if z_w v2 = 0 then y_R sp ph d 274 34 [some (y_bo 11 0 a0), some (y_bi x1), some (y_bi x2)] [y_bo 11 0 a0] m2 else y_bI (y_V sp ph d 199 [y_bo 11 0 a0] m2) (fun v3 m3 => y_bI (y_V sp ph d 180 [y_bi x2, y_bi 0, y_bi (v3 - 1)] m3) (fun v4 m4 => if ¬ z_w v4 = 0 then y_R sp ph d 274 38 [some (y_bo 11 0 a0), some (y_bi x1), some (y_bi x2)] [y_bo 11 0 a0] m4 else y_R sp ph d 274 34 [some (y_bo 11 0 a0), some (y_bi x1), some (y_bi x2)] [y_bo 11 0 a0] m4) (fun e m1 => y_px e m1)) (fun e m1 => y_px e m1)) (fun e m1 => y_px e m1)) (fun e m1 => y_px e m1) := by
  rw [y_R_eq (md := z_md_274) rfl rfl]
  exact (y_bIc fun v1 m1 => (y_sh (L' := [some (y_bo 11 0 a0), some (y_bi x1), some (y_bi x2)]) (S' := [y_bi v1, y_bi 0, y_bi x1, y_bo 11 0 a0]) rfl rfl (y_bIc fun v2 m2 => (y_sh (L' := [some (y_bo 11 0 a0), some (y_bi x1), some (y_bi x2)]) (S' := [y_bi v2, y_bo 11 0 a0]) rfl rfl (y_ic rfl (y_bIc fun v3 m3 => (y_sh (L' := [some (y_bo 11 0 a0), some (y_bi x1), some (y_bi x2)]) (S' := [y_bi v3, y_bi 0, y_bi x2, y_bo 11 0 a0]) rfl rfl (y_bIc fun v4 m4 => (y_sh (L' := [some (y_bo 11 0 a0), some (y_bi x1), some (y_bi x2)]) (S' := [y_bi v4, y_bo 11 0 a0]) rfl rfl rfl)))))))))
set_option maxRecDepth 4000 in
theorem y_E_274_34 (d : Nat) (a0 : Nat) (x1 : Int) (x2 : Int) (as0 : Nat) (m : y_m) : y_R sp ph d 274 34 [some (y_bo 11 0 a0), some (y_bi x1), some (y_bi x2)] [y_bo 11 0 as0] m = y_R sp ph d 274 39 [some (y_bo 11 0 a0), some (y_bi x1), some (y_bi x2)] [y_bi 1, y_bo 11 0 as0] m := (y_R_eq (md := z_md_274) rfl rfl).trans rfl
set_option maxRecDepth 4000 in
theorem y_E_274_38 (d : Nat) (a0 : Nat) (x1 : Int) (x2 : Int) (as0 : Nat) (m : y_m) : y_R sp ph d 274 38 [some (y_bo 11 0 a0), some (y_bi x1), some (y_bi x2)] [y_bo 11 0 as0] m = y_R sp ph d 274 39 [some (y_bo 11 0 a0), some (y_bi x1), some (y_bi x2)] [y_bi 0, y_bo 11 0 as0] m := (y_R_eq (md := z_md_274) rfl rfl).trans rfl
set_option maxRecDepth 4000 in
theorem y_E_274_39 (d : Nat) (a0 : Nat) (x1 : Int) (x2 : Int) (xs0 : Int) (as1 : Nat) (m : y_m) : y_R sp ph d 274 39 [some (y_bo 11 0 a0), some (y_bi x1), some (y_bi x2)] [y_bi xs0, y_bo 11 0 as1] m = y_bI (y_V sp ph d 179 [y_bo 11 0 as1, y_bi xs0, y_bi 1] m) (fun v1 m1 => if ¬ z_w v1 = 0 then y_R sp ph d 274 64 [none, none, none] [] m1 else if ¬ z_w x1 = z_w x2 then y_R sp ph d 274 56 [some (y_bo 11 0 a0), some (y_bi x1), some (y_bi x2)] [y_bo 11 0 a0] m1 else y_R sp ph d 274 57 [some (y_bo 11 0 a0), some (y_bi x1), some (y_bi x2)] [y_bi 1, y_bo 11 0 a0] m1) (fun e m1 => y_px e m1) := by
  rw [y_R_eq (md := z_md_274) rfl rfl]
  exact (y_bIc fun v1 m1 => (y_sh (L' := [some (y_bo 11 0 a0), some (y_bi x1), some (y_bi x2)]) (S' := [y_bi v1]) rfl rfl rfl))
set_option maxRecDepth 4000 in
theorem y_E_274_56 (d : Nat) (a0 : Nat) (x1 : Int) (x2 : Int) (as0 : Nat) (m : y_m) : y_R sp ph d 274 56 [some (y_bo 11 0 a0), some (y_bi x1), some (y_bi x2)] [y_bo 11 0 as0] m = y_R sp ph d 274 57 [some (y_bo 11 0 a0), some (y_bi x1), some (y_bi x2)] [y_bi 0, y_bo 11 0 as0] m := (y_R_eq (md := z_md_274) rfl rfl).trans rfl
set_option maxRecDepth 4000 in
theorem y_E_274_57 (d : Nat) (a0 : Nat) (x1 : Int) (x2 : Int) (xs0 : Int) (as1 : Nat) (m : y_m) : y_R sp ph d 274 57 [some (y_bo 11 0 a0), some (y_bi x1), some (y_bi x2)] [y_bi xs0, y_bo 11 0 as1] m = y_bI (y_V sp ph d 179 [y_bo 11 0 as1, y_bi xs0, y_bi 2] m) (fun v1 m1 => if z_w v1 = 0 then y_R sp ph d 274 66 [some (y_bo 11 0 a0), some (y_bi x1), some (y_bi x2)] [] m1 else y_R sp ph d 274 64 [none, none, none] [] m1) (fun e m1 => y_px e m1) := by
  rw [y_R_eq (md := z_md_274) rfl rfl]
  exact (y_bIc fun v1 m1 => (y_sh (L' := [some (y_bo 11 0 a0), some (y_bi x1), some (y_bi x2)]) (S' := [y_bi v1]) rfl rfl rfl))
set_option maxRecDepth 4000 in
theorem y_E_274_64 (d : Nat) (m : y_m) : y_R sp ph d 274 64 [none, none, none] [] m = y_rI 0 m := (y_R_eq (md := z_md_274) rfl rfl).trans rfl
set_option maxRecDepth 4000 in
theorem y_E_274_66 (d : Nat) (a0 : Nat) (x1 : Int) (x2 : Int) (m : y_m) : y_R sp ph d 274 66 [some (y_bo 11 0 a0), some (y_bi x1), some (y_bi x2)] [] m = y_bI (y_V sp ph d 273 [y_bo 11 0 a0, y_bi x1] m) (fun v1 m1 => if ¬ z_w v1 = 0 then y_R sp ph d 274 121 [none, none, none] [] m1 else y_bI (y_V sp ph d 273 [y_bo 11 0 a0, y_bi x2] m1) (fun v2 m2 => if ¬ z_w v2 = 0 then y_R sp ph d 274 121 [none, none, none] [] m2 else if z_w (z_iand (z_ishr (y_mI m2 52 6) x1) 1) = 1 then y_R sp ph d 274 121 [none, none, none] [] m2 else if z_w (z_iand (z_ishr (y_mI m2 52 6) x2) 1) = 1 then y_R sp ph d 274 121 [none, none, none] [] m2 else if ¬ z_w (y_mI m2 a0 14) = 6 then y_R sp ph d 274 123 [some (y_bo 11 0 a0), some (y_bi x1), some (y_bi x2)] [] m2 else y_R sp ph d 274 121 [none, none, none] [] m2) (fun e m1 => y_px e m1)) (fun e m1 => y_px e m1) := by
  rw [y_R_eq (md := z_md_274) rfl rfl]
  exact (y_bIc fun v1 m1 => (y_sh (L' := [some (y_bo 11 0 a0), some (y_bi x1), some (y_bi x2)]) (S' := [y_bi v1]) rfl rfl (y_ic rfl (y_bIc fun v2 m2 => (y_sh (L' := [some (y_bo 11 0 a0), some (y_bi x1), some (y_bi x2)]) (S' := [y_bi v2]) rfl rfl rfl)))))
set_option maxRecDepth 4000 in
theorem y_E_274_121 (d : Nat) (m : y_m) : y_R sp ph d 274 121 [none, none, none] [] m = y_rI (-1) m := (y_R_eq (md := z_md_274) rfl rfl).trans rfl
set_option maxRecDepth 4000 in
theorem y_E_274_123 (d : Nat) (a0 : Nat) (x1 : Int) (x2 : Int) (m : y_m) : y_R sp ph d 274 123 [some (y_bo 11 0 a0), some (y_bi x1), some (y_bi x2)] [] m = y_g (0 ≤ y_mI m a0 14 ∧ y_mI m a0 14 < (6 : Int)) (y_g (0 ≤ y_mI (y_sI m (56 + 1 * (y_mI m a0 14).toNat) 0 x1) a0 14 ∧ y_mI (y_sI m (56 + 1 * (y_mI m a0 14).toNat) 0 x1) a0 14 < (6 : Int)) (y_rI (y_mI (y_sI (y_sI (y_sI m (56 + 1 * (y_mI m a0 14).toNat) 0 x1) (56 + 1 * (y_mI (y_sI m (56 + 1 * (y_mI m a0 14).toNat) 0 x1) a0 14).toNat) 1 x2) a0 14 ((y_mI (y_sI (y_sI m (56 + 1 * (y_mI m a0 14).toNat) 0 x1) (56 + 1 * (y_mI (y_sI m (56 + 1 * (y_mI m a0 14).toNat) 0 x1) a0 14).toNat) 1 x2) a0 14) + 1)) a0 14) (y_sI (y_sI (y_sI m (56 + 1 * (y_mI m a0 14).toNat) 0 x1) (56 + 1 * (y_mI (y_sI m (56 + 1 * (y_mI m a0 14).toNat) 0 x1) a0 14).toNat) 1 x2) a0 14 ((y_mI (y_sI (y_sI m (56 + 1 * (y_mI m a0 14).toNat) 0 x1) (56 + 1 * (y_mI (y_sI m (56 + 1 * (y_mI m a0 14).toNat) 0 x1) a0 14).toNat) 1 x2) a0 14) + 1)))) := (y_R_eq (md := z_md_274) rfl rfl).trans rfl
set_option maxRecDepth 4000 in
theorem y_C_274 (d : Nat) (a0 : Nat) (x1 : Int) (x2 : Int) (m : y_m) : y_V sp ph (d + 1) 274 [y_bo 11 0 a0, y_bi x1, y_bi x2] m = y_R sp ph d 274 0 [some (y_bo 11 0 a0), some (y_bi x1), some (y_bi x2)] [] m := (y_V_eq (md := z_md_274) rfl rfl rfl).trans rfl
/-! LacedHolesModel.blind ()I -/
set_option maxRecDepth 4000 in
theorem y_E_275_0 (d : Nat) (a0 : Nat) (m : y_m) : y_R sp ph d 275 0 [some (y_bo 11 0 a0), none] [] m = y_rI (y_mI (y_sI m a0 0 0) a0 14) (y_sI (y_sI m a0 0 0) a0 14 0) := (y_R_eq (md := z_md_275) rfl rfl).trans rfl
set_option maxRecDepth 4000 in
theorem y_C_275 (d : Nat) (a0 : Nat) (m : y_m) : y_V sp ph (d + 1) 275 [y_bo 11 0 a0] m = y_R sp ph d 275 0 [some (y_bo 11 0 a0), none] [] m := (y_V_eq (md := z_md_275) rfl rfl rfl).trans rfl
/-! LacedHolesModel.threads (II)V -/
set_option maxRecDepth 4000 in
theorem y_E_276_0 (d : Nat) (a0 : Nat) (x1 : Int) (x2 : Int) (m : y_m) : y_R sp ph d 276 0 [some (y_bo 11 0 a0), some (y_bi x1), some (y_bi x2), none, none] [] m = if ¬ z_w x2 = z_w (2 * (y_mI m a0 14)) then y_R sp ph d 276 133 [some (y_bo 11 0 a0), some (y_bi x1), some (y_bi x2), none, none] [] m else y_R sp ph d 276 12 [some (y_bo 11 0 a0), none, some (y_bi x2), some (y_bi 0), none] [] m := (y_R_eq (md := z_md_276) rfl rfl).trans rfl
set_option maxRecDepth 4000 in
theorem y_E_276_12 (d : Nat) (a0 : Nat) (x2 : Int) (x3 : Int) (m : y_m) : y_R sp ph d 276 12 [some (y_bo 11 0 a0), none, some (y_bi x2), some (y_bi x3), none] [] m = if z_w x2 ≤ z_w x3 then y_R sp ph d 276 73 [some (y_bo 11 0 a0), none, some (y_bi x2), none, none] [] m else y_g (z_w x2 ≠ 0) (y_g (0 ≤ z_irem ((x3 + x2) - 1) x2 ∧ z_irem ((x3 + x2) - 1) x2 < (12 : Int)) (y_g (0 ≤ x3 ∧ x3 < (12 : Int)) (y_bI (y_V sp ph d 211 [y_bo 11 0 a0, y_bi (y_mI m 102 (z_irem ((x3 + x2) - 1) x2).toNat), y_bi (y_mI m 102 x3.toNat)] m) (fun v1 m1 => y_g (0 ≤ x3 ∧ x3 < (12 : Int)) (y_g (z_w x2 ≠ 0) (y_g (0 ≤ z_irem (x3 + 1) x2 ∧ z_irem (x3 + 1) x2 < (12 : Int)) (y_bI (y_V sp ph d 211 [y_bo 11 0 a0, y_bi (y_mI m1 102 x3.toNat), y_bi (y_mI m1 102 (z_irem (x3 + 1) x2).toNat)] m1) (fun v2 m2 => y_bI (y_V sp ph d 227 [y_bo 11 0 a0, y_bi v1, y_bi v2] m2) (fun v3 m3 => if ¬ z_w v3 = 0 then y_R sp ph d 276 67 [some (y_bo 11 0 a0), none, some (y_bi x2), some (y_bi x3), none] [] m3 else y_rV m3) (fun e m1 => y_px e m1)) (fun e m1 => y_px e m1))))) (fun e m1 => y_px e m1)))) := by
  rw [y_R_eq (md := z_md_276) rfl rfl]
  exact (y_ic rfl (y_gc (y_gc (y_gc (y_bIc fun v1 m1 => (y_sh (L' := [some (y_bo 11 0 a0), none, some (y_bi x2), some (y_bi x3), none]) (S' := [y_bi v1, y_bo 11 0 a0]) rfl rfl (y_gc (y_gc (y_gc (y_bIc fun v2 m2 => (y_sh (L' := [some (y_bo 11 0 a0), none, some (y_bi x2), some (y_bi x3), none]) (S' := [y_bi v2, y_bi v1, y_bo 11 0 a0]) rfl rfl (y_bIc fun v3 m3 => (y_sh (L' := [some (y_bo 11 0 a0), none, some (y_bi x2), some (y_bi x3), none]) (S' := [y_bi v3]) rfl rfl rfl)))))))))))))
set_option maxRecDepth 4000 in
theorem y_E_276_67 (d : Nat) (a0 : Nat) (x2 : Int) (x3 : Int) (m : y_m) : y_R sp ph d 276 67 [some (y_bo 11 0 a0), none, some (y_bi x2), some (y_bi x3), none] [] m = y_R sp ph d 276 12 [some (y_bo 11 0 a0), none, some (y_bi x2), some (y_bi (x3 + 1)), none] [] m := (y_R_eq (md := z_md_276) rfl rfl).trans rfl
set_option maxRecDepth 4000 in
theorem y_E_276_73 (d : Nat) (a0 : Nat) (x2 : Int) (m : y_m) : y_R sp ph d 276 73 [some (y_bo 11 0 a0), none, some (y_bi x2), none, none] [] m = y_bV (y_V sp ph d 247 [y_bo 11 0 a0, y_bo 100 12 102, y_bi x2] m) (fun m1 => if z_w (y_mI m1 a0 43) = 0 then y_R sp ph d 276 97 [some (y_bo 11 0 a0), none, some (y_bi x2), none, none] [] m1 else y_bI (y_V sp ph d 277 [y_bo 11 0 a0, y_bi x2] m1) (fun v2 m2 => if z_w v2 = 0 then y_R sp ph d 276 122 [some (y_bo 11 0 a0), none, none, none, none] [] m2 else y_R sp ph d 276 97 [some (y_bo 11 0 a0), none, some (y_bi x2), none, none] [] m2) (fun e m1 => y_px e m1)) (fun e m1 => y_px e m1) := by
  rw [y_R_eq (md := z_md_276) rfl rfl]
  exact (y_bVc fun m1 => (y_sh (L' := [some (y_bo 11 0 a0), none, some (y_bi x2), none, none]) (S' := []) rfl rfl (y_ic rfl (y_bIc fun v2 m2 => (y_sh (L' := [some (y_bo 11 0 a0), none, some (y_bi x2), none, none]) (S' := [y_bi v2]) rfl rfl rfl)))))
set_option maxRecDepth 4000 in
theorem y_E_276_97 (d : Nat) (a0 : Nat) (x2 : Int) (m : y_m) : y_R sp ph d 276 97 [some (y_bo 11 0 a0), none, some (y_bi x2), none, none] [] m = y_R sp ph d 276 99 [some (y_bo 11 0 a0), none, some (y_bi x2), some (y_bi 0), none] [] m := (y_R_eq (md := z_md_276) rfl rfl).trans rfl
set_option maxRecDepth 4000 in
theorem y_E_276_99 (d : Nat) (a0 : Nat) (x2 : Int) (x3 : Int) (m : y_m) : y_R sp ph d 276 99 [some (y_bo 11 0 a0), none, some (y_bi x2), some (y_bi x3), none] [] m = if z_w x2 ≤ z_w x3 then y_R sp ph d 276 122 [some (y_bo 11 0 a0), none, none, none, none] [] m else y_g (0 ≤ x3 ∧ x3 < (12 : Int)) (y_g (0 ≤ x3 ∧ x3 < (12 : Int)) (y_R sp ph d 276 99 [some (y_bo 11 0 a0), none, some (y_bi x2), some (y_bi (x3 + 1)), none] [] (y_sI m 97 x3.toNat (y_mI m 98 x3.toNat)))) := (y_R_eq (md := z_md_276) rfl rfl).trans rfl
set_option maxRecDepth 4000 in
theorem y_E_276_122 (d : Nat) (a0 : Nat) (m : y_m) : y_R sp ph d 276 122 [some (y_bo 11 0 a0), none, none, none, none] [] m = y_rV (y_sI m a0 43 ((y_mI m a0 43) + 1)) := (y_R_eq (md := z_md_276) rfl rfl).trans rfl
set_option maxRecDepth 4000 in
theorem y_E_276_133 (d : Nat) (a0 : Nat) (x1 : Int) (x2 : Int) (m : y_m) : y_R sp ph d 276 133 [some (y_bo 11 0 a0), some (y_bi x1), some (y_bi x2), none, none] [] m = y_R sp ph d 276 135 [some (y_bo 11 0 a0), some (y_bi x1), some (y_bi x2), some (y_bi 0), none] [] m := (y_R_eq (md := z_md_276) rfl rfl).trans rfl
set_option maxRecDepth 4000 in
theorem y_E_276_135 (d : Nat) (a0 : Nat) (x1 : Int) (x2 : Int) (x3 : Int) (m : y_m) : y_R sp ph d 276 135 [some (y_bo 11 0 a0), some (y_bi x1), some (y_bi x2), some (y_bi x3), none] [] m = if z_w (y_mI m a0 14) ≤ z_w x3 then y_R sp ph d 276 222 [none, none, none, none, none] [] m else if ¬ z_w (z_iand (z_ishr x1 x3) 1) = 1 then y_R sp ph d 276 155 [some (y_bo 11 0 a0), some (y_bi x1), some (y_bi x2), some (y_bi x3), none] [] m else y_R sp ph d 276 216 [some (y_bo 11 0 a0), some (y_bi x1), some (y_bi x2), some (y_bi x3), none] [] m := (y_R_eq (md := z_md_276) rfl rfl).trans rfl
set_option maxRecDepth 4000 in
theorem y_E_276_155 (d : Nat) (a0 : Nat) (x1 : Int) (x2 : Int) (x3 : Int) (m : y_m) : y_R sp ph d 276 155 [some (y_bo 11 0 a0), some (y_bi x1), some (y_bi x2), some (y_bi x3), none] [] m = y_R sp ph d 276 158 [some (y_bo 11 0 a0), some (y_bi x1), some (y_bi x2), some (y_bi x3), some (y_bi 0)] [] m := (y_R_eq (md := z_md_276) rfl rfl).trans rfl
set_option maxRecDepth 4000 in
theorem y_E_276_158 (d : Nat) (a0 : Nat) (x1 : Int) (x2 : Int) (x3 : Int) (x4 : Int) (m : y_m) : y_R sp ph d 276 158 [some (y_bo 11 0 a0), some (y_bi x1), some (y_bi x2), some (y_bi x3), some (y_bi x4)] [] m = if 2 ≤ z_w x4 then y_R sp ph d 276 216 [some (y_bo 11 0 a0), some (y_bi x1), some (y_bi x2), some (y_bi x3), none] [] m else y_g (0 ≤ x3 ∧ x3 < (6 : Int)) (y_g (0 ≤ x4 ∧ x4 < (2 : Int)) (y_g (0 ≤ x2 ∧ x2 < (12 : Int)) (y_g (0 ≤ x3 ∧ x3 < (6 : Int)) (y_g (0 ≤ 1 - x4 ∧ 1 - x4 < (2 : Int)) (y_g (0 ≤ x2 + 1 ∧ x2 + 1 < (12 : Int)) (y_bV (y_V sp ph d 276 [y_bo 11 0 a0, y_bi (z_ior x1 (z_ishl 1 x3)), y_bi (x2 + 2)] (y_sI (y_sI m 102 x2.toNat (y_mI m (56 + 1 * x3.toNat) x4.toNat)) 102 (x2 + 1).toNat (y_mI (y_sI m 102 x2.toNat (y_mI m (56 + 1 * x3.toNat) x4.toNat)) (56 + 1 * x3.toNat) (1 - x4).toNat))) (fun m1 => y_R sp ph d 276 158 [some (y_bo 11 0 a0), some (y_bi x1), some (y_bi x2), some (y_bi x3), some (y_bi (x4 + 1))] [] m1) (fun e m1 => y_px e m1))))))) := by
  rw [y_R_eq (md := z_md_276) rfl rfl]
  exact (y_ic rfl (y_gc (y_gc (y_gc (y_gc (y_gc (y_gc (y_bVc fun m1 => (y_sh (L' := [some (y_bo 11 0 a0), some (y_bi x1), some (y_bi x2), some (y_bi x3), some (y_bi x4)]) (S' := []) rfl rfl rfl)))))))))
set_option maxRecDepth 4000 in
theorem y_E_276_216 (d : Nat) (a0 : Nat) (x1 : Int) (x2 : Int) (x3 : Int) (m : y_m) : y_R sp ph d 276 216 [some (y_bo 11 0 a0), some (y_bi x1), some (y_bi x2), some (y_bi x3), none] [] m = y_R sp ph d 276 135 [some (y_bo 11 0 a0), some (y_bi x1), some (y_bi x2), some (y_bi (x3 + 1)), none] [] m := (y_R_eq (md := z_md_276) rfl rfl).trans rfl
set_option maxRecDepth 4000 in
theorem y_E_276_222 (d : Nat) (m : y_m) : y_R sp ph d 276 222 [none, none, none, none, none] [] m = y_rV m := (y_R_eq (md := z_md_276) rfl rfl).trans rfl
set_option maxRecDepth 4000 in
theorem y_C_276 (d : Nat) (a0 : Nat) (x1 : Int) (x2 : Int) (m : y_m) : y_V sp ph (d + 1) 276 [y_bo 11 0 a0, y_bi x1, y_bi x2] m = y_R sp ph d 276 0 [some (y_bo 11 0 a0), some (y_bi x1), some (y_bi x2), none, none] [] m := (y_V_eq (md := z_md_276) rfl rfl rfl).trans rfl
/-! LacedHolesModel.isAhead (I)Z -/
set_option maxRecDepth 4000 in
theorem y_E_277_0 (d : Nat) (a0 : Nat) (x1 : Int) (m : y_m) : y_R sp ph d 277 0 [some (y_bo 11 0 a0), some (y_bi x1), none] [] m = y_R sp ph d 277 2 [some (y_bo 11 0 a0), some (y_bi x1), some (y_bi 0)] [] m := (y_R_eq (md := z_md_277) rfl rfl).trans rfl
set_option maxRecDepth 4000 in
theorem y_E_277_2 (d : Nat) (a0 : Nat) (x1 : Int) (x2 : Int) (m : y_m) : y_R sp ph d 277 2 [some (y_bo 11 0 a0), some (y_bi x1), some (y_bi x2)] [] m = if z_w x1 ≤ z_w x2 then y_R sp ph d 277 49 [none, none, none] [] m else y_g (0 ≤ x2 ∧ x2 < (12 : Int)) (y_g (0 ≤ x2 ∧ x2 < (12 : Int)) (if z_w (y_mI m 98 x2.toNat) = z_w (y_mI m 97 x2.toNat) then y_R sp ph d 277 43 [some (y_bo 11 0 a0), some (y_bi x1), some (y_bi x2)] [] m else y_g (0 ≤ x2 ∧ x2 < (12 : Int)) (y_g (0 ≤ x2 ∧ x2 < (12 : Int)) (if z_w (y_mI m 97 x2.toNat) ≤ z_w (y_mI m 98 x2.toNat) then y_R sp ph d 277 41 [none, none, none] [] m else y_R sp ph d 277 42 [none, none, none] [y_bi 1] m)))) := (y_R_eq (md := z_md_277) rfl rfl).trans rfl
set_option maxRecDepth 4000 in
theorem y_E_277_41 (d : Nat) (m : y_m) : y_R sp ph d 277 41 [none, none, none] [] m = y_R sp ph d 277 42 [none, none, none] [y_bi 0] m := (y_R_eq (md := z_md_277) rfl rfl).trans rfl
set_option maxRecDepth 4000 in
theorem y_E_277_42 (d : Nat) (xs0 : Int) (m : y_m) : y_R sp ph d 277 42 [none, none, none] [y_bi xs0] m = y_g (xs0 = 0 ∨ xs0 = 1) (y_rI xs0 m) := (y_R_eq (md := z_md_277) rfl rfl).trans rfl
set_option maxRecDepth 4000 in
theorem y_E_277_43 (d : Nat) (a0 : Nat) (x1 : Int) (x2 : Int) (m : y_m) : y_R sp ph d 277 43 [some (y_bo 11 0 a0), some (y_bi x1), some (y_bi x2)] [] m = y_R sp ph d 277 2 [some (y_bo 11 0 a0), some (y_bi x1), some (y_bi (x2 + 1))] [] m := (y_R_eq (md := z_md_277) rfl rfl).trans rfl
set_option maxRecDepth 4000 in
theorem y_E_277_49 (d : Nat) (m : y_m) : y_R sp ph d 277 49 [none, none, none] [] m = y_rI 0 m := (y_R_eq (md := z_md_277) rfl rfl).trans rfl
set_option maxRecDepth 4000 in
theorem y_C_277 (d : Nat) (a0 : Nat) (x1 : Int) (m : y_m) : y_V sp ph (d + 1) 277 [y_bo 11 0 a0, y_bi x1] m = y_R sp ph d 277 0 [some (y_bo 11 0 a0), some (y_bi x1), none] [] m := (y_V_eq (md := z_md_277) rfl rfl rfl).trans rfl
/-! LacedHolesModel.findsWithin ()V -/
set_option maxRecDepth 4000 in
theorem y_E_278_0 (d : Nat) (a0 : Nat) (m : y_m) : y_R sp ph d 278 0 [some (y_bo 11 0 a0), none, none] [] m = if 2 ≤ z_w (y_mI (y_sI m a0 43 0) a0 14) then y_R sp ph d 278 14 [some (y_bo 11 0 a0), none, none] [] (y_sI m a0 43 0) else y_rV (y_sI m a0 43 0) := (y_R_eq (md := z_md_278) rfl rfl).trans rfl
set_option maxRecDepth 4000 in
theorem y_E_278_14 (d : Nat) (a0 : Nat) (m : y_m) : y_R sp ph d 278 14 [some (y_bo 11 0 a0), none, none] [] m = y_R sp ph d 278 18 [some (y_bo 11 0 a0), some (y_bi 0), some (y_bi 1)] [] m := (y_R_eq (md := z_md_278) rfl rfl).trans rfl
set_option maxRecDepth 4000 in
theorem y_E_278_18 (d : Nat) (a0 : Nat) (x1 : Int) (x2 : Int) (m : y_m) : y_R sp ph d 278 18 [some (y_bo 11 0 a0), some (y_bi x1), some (y_bi x2)] [] m = if z_w (y_mI m a0 14) ≤ z_w x2 then y_R sp ph d 278 47 [some (y_bo 11 0 a0), some (y_bi x1), none] [] m else y_bI (y_V sp ph d 279 [y_bo 11 0 a0, y_bi x2] m) (fun v1 m1 => y_bI (y_V sp ph d 279 [y_bo 11 0 a0, y_bi x1] m1) (fun v2 m2 => if z_w v2 ≤ z_w v1 then y_R sp ph d 278 41 [some (y_bo 11 0 a0), some (y_bi x1), some (y_bi x2)] [] m2 else y_R sp ph d 278 41 [some (y_bo 11 0 a0), some (y_bi x2), some (y_bi x2)] [] m2) (fun e m1 => y_px e m1)) (fun e m1 => y_px e m1) := by
  rw [y_R_eq (md := z_md_278) rfl rfl]
  exact (y_ic rfl (y_bIc fun v1 m1 => (y_sh (L' := [some (y_bo 11 0 a0), some (y_bi x1), some (y_bi x2)]) (S' := [y_bi v1]) rfl rfl (y_bIc fun v2 m2 => (y_sh (L' := [some (y_bo 11 0 a0), some (y_bi x1), some (y_bi x2)]) (S' := [y_bi v2, y_bi v1]) rfl rfl rfl)))))
set_option maxRecDepth 4000 in
theorem y_E_278_41 (d : Nat) (a0 : Nat) (x1 : Int) (x2 : Int) (m : y_m) : y_R sp ph d 278 41 [some (y_bo 11 0 a0), some (y_bi x1), some (y_bi x2)] [] m = y_R sp ph d 278 18 [some (y_bo 11 0 a0), some (y_bi x1), some (y_bi (x2 + 1))] [] m := (y_R_eq (md := z_md_278) rfl rfl).trans rfl
set_option maxRecDepth 4000 in
theorem y_E_278_47 (d : Nat) (a0 : Nat) (x1 : Int) (m : y_m) : y_R sp ph d 278 47 [some (y_bo 11 0 a0), some (y_bi x1), none] [] m = y_bI (y_V sp ph d 279 [y_bo 11 0 a0, y_bi x1] m) (fun v1 m1 => y_g (0 ≤ x1 ∧ x1 < (6 : Int)) (y_g (0 ≤ x1 ∧ x1 < (6 : Int)) (y_bV (y_V sp ph d 276 [y_bo 11 0 a0, y_bi (z_ishl 1 x1), y_bi 2] (y_sI (y_sI m1 102 0 v1) 102 1 (((y_mI (y_sI m1 102 0 v1) (56 + 1 * x1.toNat) 0) + (y_mI (y_sI m1 102 0 v1) (56 + 1 * x1.toNat) 1)) - (y_mI (y_sI m1 102 0 v1) 102 0)))) (fun m2 => y_rV m2) (fun e m1 => y_px e m1)))) (fun e m1 => y_px e m1) := by
  rw [y_R_eq (md := z_md_278) rfl rfl]
  exact (y_bIc fun v1 m1 => (y_sh (L' := [some (y_bo 11 0 a0), some (y_bi x1), none]) (S' := [y_bi v1, y_bi 0, y_bo 100 12 102]) rfl rfl (y_gc (y_gc (y_bVc fun m2 => (y_sh (L' := [some (y_bo 11 0 a0), some (y_bi x1), none]) (S' := []) rfl rfl rfl))))))
set_option maxRecDepth 4000 in
theorem y_C_278 (d : Nat) (a0 : Nat) (m : y_m) : y_V sp ph (d + 1) 278 [y_bo 11 0 a0] m = y_R sp ph d 278 0 [some (y_bo 11 0 a0), none, none] [] m := (y_V_eq (md := z_md_278) rfl rfl rfl).trans rfl
/-! LacedHolesModel.lesser (I)I -/
set_option maxRecDepth 4000 in
theorem y_E_279_0 (d : Nat) (a0 : Nat) (x1 : Int) (m : y_m) : y_R sp ph d 279 0 [some (y_bo 11 0 a0), some (y_bi x1)] [] m = y_g (0 ≤ x1 ∧ x1 < (6 : Int)) (y_g (0 ≤ x1 ∧ x1 < (6 : Int)) (if z_w (y_mI m (56 + 1 * x1.toNat) 1) ≤ z_w (y_mI m (56 + 1 * x1.toNat) 0) then y_R sp ph d 279 30 [some (y_bo 11 0 a0), some (y_bi x1)] [] m else y_g (0 ≤ x1 ∧ x1 < (6 : Int)) (y_R sp ph d 279 38 [none, none] [y_bi (y_mI m (56 + 1 * x1.toNat) 0)] m))) := (y_R_eq (md := z_md_279) rfl rfl).trans rfl
set_option maxRecDepth 4000 in
theorem y_E_279_30 (d : Nat) (a0 : Nat) (x1 : Int) (m : y_m) : y_R sp ph d 279 30 [some (y_bo 11 0 a0), some (y_bi x1)] [] m = y_g (0 ≤ x1 ∧ x1 < (6 : Int)) (y_R sp ph d 279 38 [none, none] [y_bi (y_mI m (56 + 1 * x1.toNat) 1)] m) := (y_R_eq (md := z_md_279) rfl rfl).trans rfl
set_option maxRecDepth 4000 in
theorem y_E_279_38 (d : Nat) (xs0 : Int) (m : y_m) : y_R sp ph d 279 38 [none, none] [y_bi xs0] m = y_rI xs0 m := (y_R_eq (md := z_md_279) rfl rfl).trans rfl
set_option maxRecDepth 4000 in
theorem y_C_279 (d : Nat) (a0 : Nat) (x1 : Int) (m : y_m) : y_V sp ph (d + 1) 279 [y_bo 11 0 a0, y_bi x1] m = y_R sp ph d 279 0 [some (y_bo 11 0 a0), some (y_bi x1)] [] m := (y_V_eq (md := z_md_279) rfl rfl rfl).trans rfl
/-! LacedHolesModel.within ()I -/
set_option maxRecDepth 4000 in
theorem y_E_280_0 (d : Nat) (a0 : Nat) (m : y_m) : y_R sp ph d 280 0 [some (y_bo 11 0 a0)] [] m = y_bV (y_V sp ph d 278 [y_bo 11 0 a0] (y_sI m a0 0 0)) (fun m1 => y_rI (y_mI m1 a0 43) m1) (fun e m1 => y_px e m1) := by
  rw [y_R_eq (md := z_md_280) rfl rfl]
  exact (y_bVc fun m1 => (y_sh (L' := [some (y_bo 11 0 a0)]) (S' := []) rfl rfl rfl))
set_option maxRecDepth 4000 in
theorem y_C_280 (d : Nat) (a0 : Nat) (m : y_m) : y_V sp ph (d + 1) 280 [y_bo 11 0 a0] m = y_R sp ph d 280 0 [some (y_bo 11 0 a0)] [] m := (y_V_eq (md := z_md_280) rfl rfl rfl).trans rfl
/-! LacedHolesModel.guess ()I -/
set_option maxRecDepth 4000 in
theorem y_E_281_0 (d : Nat) (a0 : Nat) (m : y_m) : y_R sp ph d 281 0 [some (y_bo 11 0 a0)] [] m = y_bV (y_V sp ph d 278 [y_bo 11 0 a0] (y_sI m a0 0 0)) (fun m1 => if ¬ z_w (y_mI m1 a0 43) = 0 then y_R sp ph d 281 18 [some (y_bo 11 0 a0)] [] m1 else y_rI (-1) m1) (fun e m1 => y_px e m1) := by
  rw [y_R_eq (md := z_md_281) rfl rfl]
  exact (y_bVc fun m1 => (y_sh (L' := [some (y_bo 11 0 a0)]) (S' := []) rfl rfl rfl))
set_option maxRecDepth 4000 in
theorem y_E_281_18 (d : Nat) (a0 : Nat) (m : y_m) : y_R sp ph d 281 18 [some (y_bo 11 0 a0)] [] m = y_bV (y_V sp ph d 196 [y_bo 11 0 a0, y_bo 100 12 97, y_bi (2 * (y_mI m a0 14))] m) (fun m1 => y_rI (y_mI m1 a0 13) m1) (fun e m1 => y_px e m1) := by
  rw [y_R_eq (md := z_md_281) rfl rfl]
  exact (y_bVc fun m1 => (y_sh (L' := [some (y_bo 11 0 a0)]) (S' := []) rfl rfl rfl))
set_option maxRecDepth 4000 in
theorem y_C_281 (d : Nat) (a0 : Nat) (m : y_m) : y_V sp ph (d + 1) 281 [y_bo 11 0 a0] m = y_R sp ph d 281 0 [some (y_bo 11 0 a0)] [] m := (y_V_eq (md := z_md_281) rfl rfl rfl).trans rfl
/-! LacedHolesModel.isPair (II)Z -/
set_option maxRecDepth 4000 in
theorem y_E_282_0 (d : Nat) (a0 : Nat) (x1 : Int) (x2 : Int) (m : y_m) : y_R sp ph d 282 0 [some (y_bo 11 0 a0), some (y_bi x1), some (y_bi x2), none] [] m = y_R sp ph d 282 2 [some (y_bo 11 0 a0), some (y_bi x1), some (y_bi x2), some (y_bi 0)] [] m := (y_R_eq (md := z_md_282) rfl rfl).trans rfl
set_option maxRecDepth 4000 in
theorem y_E_282_2 (d : Nat) (a0 : Nat) (x1 : Int) (x2 : Int) (x3 : Int) (m : y_m) : y_R sp ph d 282 2 [some (y_bo 11 0 a0), some (y_bi x1), some (y_bi x2), some (y_bi x3)] [] m = if z_w (y_mI m a0 14) ≤ z_w x3 then y_R sp ph d 282 66 [none, none, none, none] [] m else y_g (0 ≤ x3 ∧ x3 < (6 : Int)) (if ¬ z_w (y_mI m (56 + 1 * x3.toNat) 0) = z_w x1 then y_R sp ph d 282 34 [some (y_bo 11 0 a0), some (y_bi x1), some (y_bi x2), some (y_bi x3)] [] m else y_g (0 ≤ x3 ∧ x3 < (6 : Int)) (if z_w (y_mI m (56 + 1 * x3.toNat) 1) = z_w x2 then y_R sp ph d 282 58 [none, none, none, none] [] m else y_R sp ph d 282 34 [some (y_bo 11 0 a0), some (y_bi x1), some (y_bi x2), some (y_bi x3)] [] m)) := (y_R_eq (md := z_md_282) rfl rfl).trans rfl
set_option maxRecDepth 4000 in
theorem y_E_282_34 (d : Nat) (a0 : Nat) (x1 : Int) (x2 : Int) (x3 : Int) (m : y_m) : y_R sp ph d 282 34 [some (y_bo 11 0 a0), some (y_bi x1), some (y_bi x2), some (y_bi x3)] [] m = y_g (0 ≤ x3 ∧ x3 < (6 : Int)) (if ¬ z_w (y_mI m (56 + 1 * x3.toNat) 0) = z_w x2 then y_R sp ph d 282 60 [some (y_bo 11 0 a0), some (y_bi x1), some (y_bi x2), some (y_bi x3)] [] m else y_g (0 ≤ x3 ∧ x3 < (6 : Int)) (if ¬ z_w (y_mI m (56 + 1 * x3.toNat) 1) = z_w x1 then y_R sp ph d 282 60 [some (y_bo 11 0 a0), some (y_bi x1), some (y_bi x2), some (y_bi x3)] [] m else y_R sp ph d 282 58 [none, none, none, none] [] m)) := (y_R_eq (md := z_md_282) rfl rfl).trans rfl
set_option maxRecDepth 4000 in
theorem y_E_282_58 (d : Nat) (m : y_m) : y_R sp ph d 282 58 [none, none, none, none] [] m = y_rI 1 m := (y_R_eq (md := z_md_282) rfl rfl).trans rfl
set_option maxRecDepth 4000 in
theorem y_E_282_60 (d : Nat) (a0 : Nat) (x1 : Int) (x2 : Int) (x3 : Int) (m : y_m) : y_R sp ph d 282 60 [some (y_bo 11 0 a0), some (y_bi x1), some (y_bi x2), some (y_bi x3)] [] m = y_R sp ph d 282 2 [some (y_bo 11 0 a0), some (y_bi x1), some (y_bi x2), some (y_bi (x3 + 1))] [] m := (y_R_eq (md := z_md_282) rfl rfl).trans rfl
set_option maxRecDepth 4000 in
theorem y_E_282_66 (d : Nat) (m : y_m) : y_R sp ph d 282 66 [none, none, none, none] [] m = y_rI 0 m := (y_R_eq (md := z_md_282) rfl rfl).trans rfl
set_option maxRecDepth 4000 in
theorem y_C_282 (d : Nat) (a0 : Nat) (x1 : Int) (x2 : Int) (m : y_m) : y_V sp ph (d + 1) 282 [y_bo 11 0 a0, y_bi x1, y_bi x2] m = y_R sp ph d 282 0 [some (y_bo 11 0 a0), some (y_bi x1), some (y_bi x2), none] [] m := (y_V_eq (md := z_md_282) rfl rfl rfl).trans rfl
/-! LacedHolesModel.seen ()I -/
set_option maxRecDepth 4000 in
theorem y_E_283_0 (d : Nat) (a0 : Nat) (m : y_m) : y_R sp ph d 283 0 [some (y_bo 11 0 a0), none, none, none] [] m = y_bI (y_V sp ph d 230 [y_bo 11 0 a0] (y_sI m a0 0 0)) (fun v1 m1 => if z_w v1 = 0 then y_R sp ph d 283 14 [some (y_bo 11 0 a0), none, none, none] [] m1 else y_rI 0 m1) (fun e m1 => y_px e m1) := by
  rw [y_R_eq (md := z_md_283) rfl rfl]
  exact (y_bIc fun v1 m1 => (y_sh (L' := [some (y_bo 11 0 a0), none, none, none]) (S' := [y_bi v1]) rfl rfl rfl))
set_option maxRecDepth 4000 in
theorem y_E_283_14 (d : Nat) (a0 : Nat) (m : y_m) : y_R sp ph d 283 14 [some (y_bo 11 0 a0), none, none, none] [] m = if z_w (z_irem (y_mI m a0 13) 2) = 1 then y_R sp ph d 283 37 [none, none, none, none] [] m else if z_w (y_mI m a0 13) = z_w (2 * (y_mI m a0 14)) then y_R sp ph d 283 39 [some (y_bo 11 0 a0), none, none, none] [] m else y_R sp ph d 283 37 [none, none, none, none] [] m := (y_R_eq (md := z_md_283) rfl rfl).trans rfl
set_option maxRecDepth 4000 in
theorem y_E_283_37 (d : Nat) (m : y_m) : y_R sp ph d 283 37 [none, none, none, none] [] m = y_rI 0 m := (y_R_eq (md := z_md_283) rfl rfl).trans rfl
set_option maxRecDepth 4000 in
theorem y_E_283_39 (d : Nat) (a0 : Nat) (m : y_m) : y_R sp ph d 283 39 [some (y_bo 11 0 a0), none, none, none] [] m = y_R sp ph d 283 41 [some (y_bo 11 0 a0), some (y_bi 0), none, none] [] m := (y_R_eq (md := z_md_283) rfl rfl).trans rfl
set_option maxRecDepth 4000 in
theorem y_E_283_41 (d : Nat) (a0 : Nat) (x1 : Int) (m : y_m) : y_R sp ph d 283 41 [some (y_bo 11 0 a0), some (y_bi x1), none, none] [] m = if 2 ≤ z_w x1 then y_R sp ph d 283 106 [none, none, none, none] [] m else y_R sp ph d 283 50 [some (y_bo 11 0 a0), some (y_bi x1), some (y_bi 1), some (y_bi x1)] [] m := (y_R_eq (md := z_md_283) rfl rfl).trans rfl
set_option maxRecDepth 4000 in
theorem y_E_283_50 (d : Nat) (a0 : Nat) (x1 : Int) (x2 : Int) (x3 : Int) (m : y_m) : y_R sp ph d 283 50 [some (y_bo 11 0 a0), some (y_bi x1), some (y_bi x2), some (y_bi x3)] [] m = if z_w (y_mI m a0 13) ≤ z_w x3 then y_R sp ph d 283 92 [some (y_bo 11 0 a0), some (y_bi x1), some (y_bi x2), none] [] m else if z_w x2 = 0 then y_R sp ph d 283 84 [some (y_bo 11 0 a0), some (y_bi x1), none, some (y_bi x3)] [] m else y_g (0 ≤ x3 ∧ x3 < (12 : Int)) (y_bI (y_V sp ph d 225 [y_bo 11 0 a0, y_bi x3] m) (fun v1 m1 => y_bI (y_V sp ph d 282 [y_bo 11 0 a0, y_bi (y_mI m 54 x3.toNat), y_bi v1] m1) (fun v2 m2 => if z_w v2 = 0 then y_R sp ph d 283 84 [some (y_bo 11 0 a0), some (y_bi x1), none, some (y_bi x3)] [] m2 else y_R sp ph d 283 85 [some (y_bo 11 0 a0), some (y_bi x1), none, some (y_bi x3)] [y_bi 1] m2) (fun e m1 => y_px e m1)) (fun e m1 => y_px e m1)) := by
  rw [y_R_eq (md := z_md_283) rfl rfl]
  exact (y_ic rfl (y_ic rfl (y_gc (y_bIc fun v1 m1 => (y_sh (L' := [some (y_bo 11 0 a0), some (y_bi x1), some (y_bi x2), some (y_bi x3)]) (S' := [y_bi v1, y_bi (y_mI m 54 x3.toNat), y_bo 11 0 a0]) rfl rfl (y_bIc fun v2 m2 => (y_sh (L' := [some (y_bo 11 0 a0), some (y_bi x1), some (y_bi x2), some (y_bi x3)]) (S' := [y_bi v2]) rfl rfl rfl)))))))
set_option maxRecDepth 4000 in
theorem y_E_283_84 (d : Nat) (a0 : Nat) (x1 : Int) (x3 : Int) (m : y_m) : y_R sp ph d 283 84 [some (y_bo 11 0 a0), some (y_bi x1), none, some (y_bi x3)] [] m = y_R sp ph d 283 85 [some (y_bo 11 0 a0), some (y_bi x1), none, some (y_bi x3)] [y_bi 0] m := (y_R_eq (md := z_md_283) rfl rfl).trans rfl
set_option maxRecDepth 4000 in
theorem y_E_283_85 (d : Nat) (a0 : Nat) (x1 : Int) (x3 : Int) (xs0 : Int) (m : y_m) : y_R sp ph d 283 85 [some (y_bo 11 0 a0), some (y_bi x1), none, some (y_bi x3)] [y_bi xs0] m = y_R sp ph d 283 50 [some (y_bo 11 0 a0), some (y_bi x1), some (y_bi xs0), some (y_bi (x3 + 2))] [] m := (y_R_eq (md := z_md_283) rfl rfl).trans rfl
set_option maxRecDepth 4000 in
theorem y_E_283_92 (d : Nat) (a0 : Nat) (x1 : Int) (x2 : Int) (m : y_m) : y_R sp ph d 283 92 [some (y_bo 11 0 a0), some (y_bi x1), some (y_bi x2), none] [] m = if z_w x2 = 0 then y_R sp ph d 283 100 [some (y_bo 11 0 a0), some (y_bi x1), none, none] [] m else y_rI (x1 + 1) m := (y_R_eq (md := z_md_283) rfl rfl).trans rfl
set_option maxRecDepth 4000 in
theorem y_E_283_100 (d : Nat) (a0 : Nat) (x1 : Int) (m : y_m) : y_R sp ph d 283 100 [some (y_bo 11 0 a0), some (y_bi x1), none, none] [] m = y_R sp ph d 283 41 [some (y_bo 11 0 a0), some (y_bi (x1 + 1)), none, none] [] m := (y_R_eq (md := z_md_283) rfl rfl).trans rfl
set_option maxRecDepth 4000 in
theorem y_E_283_106 (d : Nat) (m : y_m) : y_R sp ph d 283 106 [none, none, none, none] [] m = y_rI 0 m := (y_R_eq (md := z_md_283) rfl rfl).trans rfl
set_option maxRecDepth 4000 in
theorem y_C_283 (d : Nat) (a0 : Nat) (m : y_m) : y_V sp ph (d + 1) 283 [y_bo 11 0 a0] m = y_R sp ph d 283 0 [some (y_bo 11 0 a0), none, none, none] [] m := (y_V_eq (md := z_md_283) rfl rfl rfl).trans rfl
/-! LacedHolesModel.twice (JIJ)I -/
set_option maxRecDepth 4000 in
theorem y_E_284_0 (d : Nat) (a0 : Nat) (x1 : Int) (x3 : Int) (x4 : Int) (m : y_m) : y_R sp ph d 284 0 [some (y_bo 11 0 a0), some (y_bl x1), none, some (y_bi x3), some (y_bl x4), none, none] [] m = y_bI (y_V sp ph d 213 [y_bl x1] m) (fun v1 m1 => y_bI (y_V sp ph d 213 [y_bl x4] m1) (fun v2 m2 => y_R sp ph d 284 23 [some (y_bo 11 0 a0), some (y_bl x1), none, none, some (y_bl x4), none, some (y_bi 1)] [] (y_sI m2 92 0 (((2 * v1) + x3) - v2))) (fun e m1 => y_px e m1)) (fun e m1 => y_px e m1) := by
  rw [y_R_eq (md := z_md_284) rfl rfl]
  exact (y_bIc fun v1 m1 => (y_sh (L' := [some (y_bo 11 0 a0), some (y_bl x1), none, some (y_bi x3), some (y_bl x4), none, none]) (S' := [y_bi v1, y_bi 2, y_bi 0, y_bo 100 6 92]) rfl rfl (y_bIc fun v2 m2 => (y_sh (L' := [some (y_bo 11 0 a0), some (y_bl x1), none, some (y_bi x3), some (y_bl x4), none, none]) (S' := [y_bi v2, y_bi ((2 * v1) + x3), y_bi 0, y_bo 100 6 92]) rfl rfl rfl))))
set_option maxRecDepth 4000 in
theorem y_E_284_23 (d : Nat) (a0 : Nat) (x1 : Int) (x4 : Int) (x6 : Int) (m : y_m) : y_R sp ph d 284 23 [some (y_bo 11 0 a0), some (y_bl x1), none, none, some (y_bl x4), none, some (y_bi x6)] [] m = if 5 < z_w x6 then y_R sp ph d 284 58 [some (y_bo 11 0 a0), none, none, none, none, none, none] [] m else y_bI (y_V sp ph d 214 [y_bl x1, y_bi x6] m) (fun v1 m1 => y_bI (y_V sp ph d 214 [y_bl x4, y_bi x6] m1) (fun v2 m2 => y_g (0 ≤ x6 ∧ x6 < (6 : Int)) (y_R sp ph d 284 23 [some (y_bo 11 0 a0), some (y_bl x1), none, none, some (y_bl x4), none, some (y_bi (x6 + 1))] [] (y_sI m2 92 x6.toNat ((2 * v1) - v2)))) (fun e m1 => y_px e m1)) (fun e m1 => y_px e m1) := by
  rw [y_R_eq (md := z_md_284) rfl rfl]
  exact (y_ic rfl (y_bIc fun v1 m1 => (y_sh (L' := [some (y_bo 11 0 a0), some (y_bl x1), none, none, some (y_bl x4), none, some (y_bi x6)]) (S' := [y_bi v1, y_bi 2, y_bi x6, y_bo 100 6 92]) rfl rfl (y_bIc fun v2 m2 => (y_sh (L' := [some (y_bo 11 0 a0), some (y_bl x1), none, none, some (y_bl x4), none, some (y_bi x6)]) (S' := [y_bi v2, y_bi (2 * v1), y_bi x6, y_bo 100 6 92]) rfl rfl rfl)))))
set_option maxRecDepth 4000 in
theorem y_E_284_58 (d : Nat) (a0 : Nat) (m : y_m) : y_R sp ph d 284 58 [some (y_bo 11 0 a0), none, none, none, none, none, none] [] m = y_bI (y_V sp ph d 217 [y_bo 11 0 a0, y_bi 0] m) (fun v1 m1 => y_rI v1 m1) (fun e m1 => y_px e m1) := by
  rw [y_R_eq (md := z_md_284) rfl rfl]
  exact (y_bIc fun v1 m1 => (y_sh (L' := [some (y_bo 11 0 a0), none, none, none, none, none, none]) (S' := [y_bi v1]) rfl rfl rfl))
set_option maxRecDepth 4000 in
theorem y_C_284 (d : Nat) (a0 : Nat) (x1 : Int) (x3 : Int) (x4 : Int) (m : y_m) : y_V sp ph (d + 1) 284 [y_bo 11 0 a0, y_bl x1, y_bi x3, y_bl x4] m = y_R sp ph d 284 0 [some (y_bo 11 0 a0), some (y_bl x1), none, some (y_bi x3), some (y_bl x4), none, none] [] m := (y_V_eq (md := z_md_284) rfl rfl rfl).trans rfl
/-! LacedHolesModel.knot (II)I -/
set_option maxRecDepth 4000 in
theorem y_E_285_0 (d : Nat) (a0 : Nat) (x1 : Int) (x2 : Int) (m : y_m) : y_R sp ph d 285 0 [some (y_bo 11 0 a0), some (y_bi x1), some (y_bi x2), none, none, none, none, none, none] [] m = y_bI (y_V sp ph d 230 [y_bo 11 0 a0] (y_sI m a0 0 0)) (fun v1 m1 => if ¬ z_w v1 = 0 then y_R sp ph d 285 45 [none, none, none, none, none, none, none, none, none] [] m1 else y_bI (y_V sp ph d 180 [y_bi x1, y_bi 0, y_bi 999] m1) (fun v2 m2 => if z_w v2 = 0 then y_R sp ph d 285 33 [some (y_bo 11 0 a0), some (y_bi x1), some (y_bi x2), none, none, none, none, none, none] [y_bo 11 0 a0] m2 else y_bI (y_V sp ph d 180 [y_bi x2, y_bi 0, y_bi 1] m2) (fun v3 m3 => if ¬ z_w v3 = 0 then y_R sp ph d 285 37 [some (y_bo 11 0 a0), some (y_bi x1), some (y_bi x2), none, none, none, none, none, none] [y_bo 11 0 a0] m3 else y_R sp ph d 285 33 [some (y_bo 11 0 a0), some (y_bi x1), some (y_bi x2), none, none, none, none, none, none] [y_bo 11 0 a0] m3) (fun e m1 => y_px e m1)) (fun e m1 => y_px e m1)) (fun e m1 => y_px e m1) := by
  rw [y_R_eq (md := z_md_285) rfl rfl]
  exact (y_bIc fun v1 m1 => (y_sh (L' := [some (y_bo 11 0 a0), some (y_bi x1), some (y_bi x2), none, none, none, none, none, none]) (S' := [y_bi v1]) rfl rfl (y_ic rfl (y_bIc fun v2 m2 => (y_sh (L' := [some (y_bo 11 0 a0), some (y_bi x1), some (y_bi x2), none, none, none, none, none, none]) (S' := [y_bi v2, y_bo 11 0 a0]) rfl rfl (y_ic rfl (y_bIc fun v3 m3 => (y_sh (L' := [some (y_bo 11 0 a0), some (y_bi x1), some (y_bi x2), none, none, none, none, none, none]) (S' := [y_bi v3, y_bo 11 0 a0]) rfl rfl rfl))))))))
set_option maxRecDepth 4000 in
theorem y_E_285_33 (d : Nat) (a0 : Nat) (x1 : Int) (x2 : Int) (as0 : Nat) (m : y_m) : y_R sp ph d 285 33 [some (y_bo 11 0 a0), some (y_bi x1), some (y_bi x2), none, none, none, none, none, none] [y_bo 11 0 as0] m = y_R sp ph d 285 38 [some (y_bo 11 0 a0), some (y_bi x1), some (y_bi x2), none, none, none, none, none, none] [y_bi 1, y_bo 11 0 as0] m := (y_R_eq (md := z_md_285) rfl rfl).trans rfl
set_option maxRecDepth 4000 in
theorem y_E_285_37 (d : Nat) (a0 : Nat) (x1 : Int) (x2 : Int) (as0 : Nat) (m : y_m) : y_R sp ph d 285 37 [some (y_bo 11 0 a0), some (y_bi x1), some (y_bi x2), none, none, none, none, none, none] [y_bo 11 0 as0] m = y_R sp ph d 285 38 [some (y_bo 11 0 a0), some (y_bi x1), some (y_bi x2), none, none, none, none, none, none] [y_bi 0, y_bo 11 0 as0] m := (y_R_eq (md := z_md_285) rfl rfl).trans rfl
set_option maxRecDepth 4000 in
theorem y_E_285_38 (d : Nat) (a0 : Nat) (x1 : Int) (x2 : Int) (xs0 : Int) (as1 : Nat) (m : y_m) : y_R sp ph d 285 38 [some (y_bo 11 0 a0), some (y_bi x1), some (y_bi x2), none, none, none, none, none, none] [y_bi xs0, y_bo 11 0 as1] m = y_bI (y_V sp ph d 179 [y_bo 11 0 as1, y_bi xs0, y_bi 2] m) (fun v1 m1 => if z_w v1 = 0 then y_R sp ph d 285 47 [some (y_bo 11 0 a0), some (y_bi x1), some (y_bi x2), none, none, none, none, none, none] [] m1 else y_R sp ph d 285 45 [none, none, none, none, none, none, none, none, none] [] m1) (fun e m1 => y_px e m1) := by
  rw [y_R_eq (md := z_md_285) rfl rfl]
  exact (y_bIc fun v1 m1 => (y_sh (L' := [some (y_bo 11 0 a0), some (y_bi x1), some (y_bi x2), none, none, none, none, none, none]) (S' := [y_bi v1]) rfl rfl rfl))
set_option maxRecDepth 4000 in
theorem y_E_285_45 (d : Nat) (m : y_m) : y_R sp ph d 285 45 [none, none, none, none, none, none, none, none, none] [] m = y_rI 0 m := (y_R_eq (md := z_md_285) rfl rfl).trans rfl
set_option maxRecDepth 4000 in
theorem y_E_285_47 (d : Nat) (a0 : Nat) (x1 : Int) (x2 : Int) (m : y_m) : y_R sp ph d 285 47 [some (y_bo 11 0 a0), some (y_bi x1), some (y_bi x2), none, none, none, none, none, none] [] m = y_bL (y_V sp ph d 232 [y_bo 11 0 a0] m) (fun v1 m1 => y_R sp ph d 285 61 [some (y_bo 11 0 a0), some (y_bi x1), some (y_bi x2), some (y_bl v1), none, some (y_bl 0), none, some (y_bi (-1)), some (y_bi 0)] [] m1) (fun e m1 => y_px e m1) := by
  rw [y_R_eq (md := z_md_285) rfl rfl]
  exact (y_bLc fun v1 m1 => (y_sh (L' := [some (y_bo 11 0 a0), some (y_bi x1), some (y_bi x2), none, none, none, none, none, none]) (S' := [y_bl v1]) rfl rfl rfl))
set_option maxRecDepth 4000 in
theorem y_E_285_61 (d : Nat) (a0 : Nat) (x1 : Int) (x2 : Int) (x3 : Int) (x5 : Int) (x7 : Int) (x8 : Int) (m : y_m) : y_R sp ph d 285 61 [some (y_bo 11 0 a0), some (y_bi x1), some (y_bi x2), some (y_bl x3), none, some (y_bl x5), none, some (y_bi x7), some (y_bi x8)] [] m = if z_w (y_mI m a0 13) ≤ z_w x8 then y_R sp ph d 285 136 [none, none, none, none, none, none, none, some (y_bi x7), none] [] m else y_bI (y_V sp ph d 284 [y_bo 11 0 a0, y_bl x5, y_bi ((-2) * x1), y_bl x3] m) (fun v1 m1 => if 0 < z_w v1 then y_R sp ph d 285 88 [some (y_bo 11 0 a0), some (y_bi x1), some (y_bi x2), some (y_bl x3), none, some (y_bl x5), none, some (y_bi x7), some (y_bi x8)] [] m1 else y_R sp ph d 285 88 [some (y_bo 11 0 a0), some (y_bi x1), some (y_bi x2), some (y_bl x3), none, some (y_bl x5), none, some (y_bi x8), some (y_bi x8)] [] m1) (fun e m1 => y_px e m1) := by
  rw [y_R_eq (md := z_md_285) rfl rfl]
  exact (y_ic rfl (y_bIc fun v1 m1 => (y_sh (L' := [some (y_bo 11 0 a0), some (y_bi x1), some (y_bi x2), some (y_bl x3), none, some (y_bl x5), none, some (y_bi x7), some (y_bi x8)]) (S' := [y_bi v1]) rfl rfl rfl)))
set_option maxRecDepth 4000 in
theorem y_E_285_88 (d : Nat) (a0 : Nat) (x1 : Int) (x2 : Int) (x3 : Int) (x5 : Int) (x7 : Int) (x8 : Int) (m : y_m) : y_R sp ph d 285 88 [some (y_bo 11 0 a0), some (y_bi x1), some (y_bi x2), some (y_bl x3), none, some (y_bl x5), none, some (y_bi x7), some (y_bi x8)] [] m = y_g (0 ≤ x8 ∧ x8 < (12 : Int)) (y_bI (y_V sp ph d 225 [y_bo 11 0 a0, y_bi x8] m) (fun v1 m1 => y_bL (y_V sp ph d 212 [y_bo 11 0 a0, y_bi (y_mI m 54 x8.toNat), y_bi v1] m1) (fun v2 m2 => if ¬ z_w x2 = 0 then y_R sp ph d 285 130 [some (y_bo 11 0 a0), some (y_bi x1), some (y_bi x2), some (y_bl x3), none, some (y_bl (x5 + v2)), none, some (y_bi x7), some (y_bi x8)] [] m2 else y_bI (y_V sp ph d 284 [y_bo 11 0 a0, y_bl (x5 + v2), y_bi (2 * x1), y_bl x3] m2) (fun v3 m3 => if z_w v3 < 0 then y_R sp ph d 285 130 [some (y_bo 11 0 a0), some (y_bi x1), some (y_bi x2), some (y_bl x3), none, some (y_bl (x5 + v2)), none, some (y_bi x7), some (y_bi x8)] [] m3 else y_rI x8 m3) (fun e m1 => y_px e m1)) (fun e m1 => y_px e m1)) (fun e m1 => y_px e m1)) := by
  rw [y_R_eq (md := z_md_285) rfl rfl]
  exact (y_gc (y_bIc fun v1 m1 => (y_sh (L' := [some (y_bo 11 0 a0), some (y_bi x1), some (y_bi x2), some (y_bl x3), none, some (y_bl x5), none, some (y_bi x7), some (y_bi x8)]) (S' := [y_bi v1, y_bi (y_mI m 54 x8.toNat), y_bo 11 0 a0, y_bl x5]) rfl rfl (y_bLc fun v2 m2 => (y_sh (L' := [some (y_bo 11 0 a0), some (y_bi x1), some (y_bi x2), some (y_bl x3), none, some (y_bl x5), none, some (y_bi x7), some (y_bi x8)]) (S' := [y_bl v2, y_bl x5]) rfl rfl (y_ic rfl (y_bIc fun v3 m3 => (y_sh (L' := [some (y_bo 11 0 a0), some (y_bi x1), some (y_bi x2), some (y_bl x3), none, some (y_bl (x5 + v2)), none, some (y_bi x7), some (y_bi x8)]) (S' := [y_bi v3]) rfl rfl rfl))))))))
set_option maxRecDepth 4000 in
theorem y_E_285_130 (d : Nat) (a0 : Nat) (x1 : Int) (x2 : Int) (x3 : Int) (x5 : Int) (x7 : Int) (x8 : Int) (m : y_m) : y_R sp ph d 285 130 [some (y_bo 11 0 a0), some (y_bi x1), some (y_bi x2), some (y_bl x3), none, some (y_bl x5), none, some (y_bi x7), some (y_bi x8)] [] m = y_R sp ph d 285 61 [some (y_bo 11 0 a0), some (y_bi x1), some (y_bi x2), some (y_bl x3), none, some (y_bl x5), none, some (y_bi x7), some (y_bi (x8 + 1))] [] m := (y_R_eq (md := z_md_285) rfl rfl).trans rfl
set_option maxRecDepth 4000 in
theorem y_E_285_136 (d : Nat) (x7 : Int) (m : y_m) : y_R sp ph d 285 136 [none, none, none, none, none, none, none, some (y_bi x7), none] [] m = y_rI x7 m := (y_R_eq (md := z_md_285) rfl rfl).trans rfl
set_option maxRecDepth 4000 in
theorem y_C_285 (d : Nat) (a0 : Nat) (x1 : Int) (x2 : Int) (m : y_m) : y_V sp ph (d + 1) 285 [y_bo 11 0 a0, y_bi x1, y_bi x2] m = y_R sp ph d 285 0 [some (y_bo 11 0 a0), some (y_bi x1), some (y_bi x2), none, none, none, none, none, none] [] m := (y_V_eq (md := z_md_285) rfl rfl rfl).trans rfl
/-! LacedHolesModel.wearOf ([III)I -/
set_option maxRecDepth 4000 in
theorem y_E_286_0 (d : Nat) (a0 : Nat) (a1 : Nat) (n1 : Nat) (x2 : Int) (x3 : Int) (m : y_m) : y_R sp ph d 286 0 [some (y_bo 11 0 a0), some (y_bo 100 n1 a1), some (y_bi x2), some (y_bi x3), none] [] m = y_R sp ph d 286 3 [some (y_bo 11 0 a0), some (y_bo 100 n1 a1), some (y_bi x2), some (y_bi x3), some (y_bi 0)] [] m := (y_R_eq (md := z_md_286) rfl rfl).trans rfl
set_option maxRecDepth 4000 in
theorem y_E_286_3 (d : Nat) (a0 : Nat) (a1 : Nat) (n1 : Nat) (x2 : Int) (x3 : Int) (x4 : Int) (m : y_m) : y_R sp ph d 286 3 [some (y_bo 11 0 a0), some (y_bo 100 n1 a1), some (y_bi x2), some (y_bi x3), some (y_bi x4)] [] m = if z_w x2 ≤ z_w x4 then y_R sp ph d 286 71 [none, none, none, none, none] [] m else y_g (0 ≤ x4 ∧ x4 < (n1 : Int)) (if ¬ z_w (y_mI m a1 x4.toNat) = z_w x3 then y_R sp ph d 286 65 [some (y_bo 11 0 a0), some (y_bo 100 n1 a1), some (y_bi x2), some (y_bi x3), some (y_bi x4)] [] m else y_g (z_w x2 ≠ 0) (y_g (0 ≤ z_irem ((x4 + x2) - 1) x2 ∧ z_irem ((x4 + x2) - 1) x2 < (n1 : Int)) (y_bI (y_V sp ph d 211 [y_bo 11 0 a0, y_bi (y_mI m a1 (z_irem ((x4 + x2) - 1) x2).toNat), y_bi x3] m) (fun v1 m1 => if z_w v1 = 0 then y_R sp ph d 286 40 [some (y_bo 11 0 a0), some (y_bo 100 n1 a1), some (y_bi x2), some (y_bi x3), some (y_bi x4)] [y_bi 1] m1 else y_R sp ph d 286 41 [some (y_bo 11 0 a0), some (y_bo 100 n1 a1), some (y_bi x2), some (y_bi x3), some (y_bi x4)] [y_bi 0, y_bi 1] m1) (fun e m1 => y_px e m1)))) := by
  rw [y_R_eq (md := z_md_286) rfl rfl]
  exact (y_ic rfl (y_gc (y_ic rfl (y_gc (y_gc (y_bIc fun v1 m1 => (y_sh (L' := [some (y_bo 11 0 a0), some (y_bo 100 n1 a1), some (y_bi x2), some (y_bi x3), some (y_bi x4)]) (S' := [y_bi v1, y_bi 1]) rfl rfl rfl)))))))
set_option maxRecDepth 4000 in
theorem y_E_286_40 (d : Nat) (a0 : Nat) (a1 : Nat) (n1 : Nat) (x2 : Int) (x3 : Int) (x4 : Int) (xs0 : Int) (m : y_m) : y_R sp ph d 286 40 [some (y_bo 11 0 a0), some (y_bo 100 n1 a1), some (y_bi x2), some (y_bi x3), some (y_bi x4)] [y_bi xs0] m = y_R sp ph d 286 41 [some (y_bo 11 0 a0), some (y_bo 100 n1 a1), some (y_bi x2), some (y_bi x3), some (y_bi x4)] [y_bi 1, y_bi xs0] m := (y_R_eq (md := z_md_286) rfl rfl).trans rfl
set_option maxRecDepth 4000 in
theorem y_E_286_41 (d : Nat) (a0 : Nat) (a1 : Nat) (n1 : Nat) (x2 : Int) (x3 : Int) (x4 : Int) (xs0 : Int) (xs1 : Int) (m : y_m) : y_R sp ph d 286 41 [some (y_bo 11 0 a0), some (y_bo 100 n1 a1), some (y_bi x2), some (y_bi x3), some (y_bi x4)] [y_bi xs0, y_bi xs1] m = y_g (z_w x2 ≠ 0) (y_g (0 ≤ z_irem (x4 + 1) x2 ∧ z_irem (x4 + 1) x2 < (n1 : Int)) (y_bI (y_V sp ph d 211 [y_bo 11 0 a0, y_bi x3, y_bi (y_mI m a1 (z_irem (x4 + 1) x2).toNat)] m) (fun v1 m1 => if z_w v1 = 0 then y_R sp ph d 286 62 [none, none, none, none, none] [y_bi (xs1 + xs0)] m1 else y_R sp ph d 286 63 [none, none, none, none, none] [y_bi 0, y_bi (xs1 + xs0)] m1) (fun e m1 => y_px e m1))) := by
  rw [y_R_eq (md := z_md_286) rfl rfl]
  exact (y_gc (y_gc (y_bIc fun v1 m1 => (y_sh (L' := [some (y_bo 11 0 a0), some (y_bo 100 n1 a1), some (y_bi x2), some (y_bi x3), some (y_bi x4)]) (S' := [y_bi v1, y_bi (xs1 + xs0)]) rfl rfl rfl))))
set_option maxRecDepth 4000 in
theorem y_E_286_62 (d : Nat) (xs0 : Int) (m : y_m) : y_R sp ph d 286 62 [none, none, none, none, none] [y_bi xs0] m = y_R sp ph d 286 63 [none, none, none, none, none] [y_bi 1, y_bi xs0] m := (y_R_eq (md := z_md_286) rfl rfl).trans rfl
set_option maxRecDepth 4000 in
theorem y_E_286_63 (d : Nat) (xs0 : Int) (xs1 : Int) (m : y_m) : y_R sp ph d 286 63 [none, none, none, none, none] [y_bi xs0, y_bi xs1] m = y_rI (xs1 + xs0) m := (y_R_eq (md := z_md_286) rfl rfl).trans rfl
set_option maxRecDepth 4000 in
theorem y_E_286_65 (d : Nat) (a0 : Nat) (a1 : Nat) (n1 : Nat) (x2 : Int) (x3 : Int) (x4 : Int) (m : y_m) : y_R sp ph d 286 65 [some (y_bo 11 0 a0), some (y_bo 100 n1 a1), some (y_bi x2), some (y_bi x3), some (y_bi x4)] [] m = y_R sp ph d 286 3 [some (y_bo 11 0 a0), some (y_bo 100 n1 a1), some (y_bi x2), some (y_bi x3), some (y_bi (x4 + 1))] [] m := (y_R_eq (md := z_md_286) rfl rfl).trans rfl
set_option maxRecDepth 4000 in
theorem y_E_286_71 (d : Nat) (m : y_m) : y_R sp ph d 286 71 [none, none, none, none, none] [] m = y_rI 0 m := (y_R_eq (md := z_md_286) rfl rfl).trans rfl
set_option maxRecDepth 4000 in
theorem y_C_286 (d : Nat) (a0 : Nat) (a1 : Nat) (n1 : Nat) (x2 : Int) (x3 : Int) (m : y_m) : y_V sp ph (d + 1) 286 [y_bo 11 0 a0, y_bo 100 n1 a1, y_bi x2, y_bi x3] m = y_R sp ph d 286 0 [some (y_bo 11 0 a0), some (y_bo 100 n1 a1), some (y_bi x2), some (y_bi x3), none] [] m := (y_V_eq (md := z_md_286) rfl rfl rfl).trans rfl
/-! LacedHolesModel.wear (I)I -/
set_option maxRecDepth 4000 in
theorem y_E_287_0 (d : Nat) (a0 : Nat) (x1 : Int) (m : y_m) : y_R sp ph d 287 0 [some (y_bo 11 0 a0), some (y_bi x1)] [] m = y_bI (y_V sp ph d 199 [y_bo 11 0 a0] (y_sI m a0 0 0)) (fun v1 m1 => y_bI (y_V sp ph d 180 [y_bi x1, y_bi 0, y_bi (v1 - 1)] m1) (fun v2 m2 => if ¬ z_w v2 = 0 then y_R sp ph d 287 24 [some (y_bo 11 0 a0), some (y_bi x1)] [y_bo 11 0 a0] m2 else y_R sp ph d 287 25 [some (y_bo 11 0 a0), some (y_bi x1)] [y_bi 1, y_bo 11 0 a0] m2) (fun e m1 => y_px e m1)) (fun e m1 => y_px e m1) := by
  rw [y_R_eq (md := z_md_287) rfl rfl]
  exact (y_bIc fun v1 m1 => (y_sh (L' := [some (y_bo 11 0 a0), some (y_bi x1)]) (S' := [y_bi v1, y_bi 0, y_bi x1, y_bo 11 0 a0]) rfl rfl (y_bIc fun v2 m2 => (y_sh (L' := [some (y_bo 11 0 a0), some (y_bi x1)]) (S' := [y_bi v2, y_bo 11 0 a0]) rfl rfl rfl))))
set_option maxRecDepth 4000 in
theorem y_E_287_24 (d : Nat) (a0 : Nat) (x1 : Int) (as0 : Nat) (m : y_m) : y_R sp ph d 287 24 [some (y_bo 11 0 a0), some (y_bi x1)] [y_bo 11 0 as0] m = y_R sp ph d 287 25 [some (y_bo 11 0 a0), some (y_bi x1)] [y_bi 0, y_bo 11 0 as0] m := (y_R_eq (md := z_md_287) rfl rfl).trans rfl
set_option maxRecDepth 4000 in
theorem y_E_287_25 (d : Nat) (a0 : Nat) (x1 : Int) (xs0 : Int) (as1 : Nat) (m : y_m) : y_R sp ph d 287 25 [some (y_bo 11 0 a0), some (y_bi x1)] [y_bi xs0, y_bo 11 0 as1] m = y_bI (y_V sp ph d 179 [y_bo 11 0 as1, y_bi xs0, y_bi 1] m) (fun v1 m1 => if ¬ z_w v1 = 0 then y_R sp ph d 287 52 [none, none] [] m1 else if ¬ z_w (y_mI m1 a0 13) = 0 then y_R sp ph d 287 44 [some (y_bo 11 0 a0), some (y_bi x1)] [y_bo 11 0 a0] m1 else y_R sp ph d 287 45 [some (y_bo 11 0 a0), some (y_bi x1)] [y_bi 1, y_bo 11 0 a0] m1) (fun e m1 => y_px e m1) := by
  rw [y_R_eq (md := z_md_287) rfl rfl]
  exact (y_bIc fun v1 m1 => (y_sh (L' := [some (y_bo 11 0 a0), some (y_bi x1)]) (S' := [y_bi v1]) rfl rfl rfl))
set_option maxRecDepth 4000 in
theorem y_E_287_44 (d : Nat) (a0 : Nat) (x1 : Int) (as0 : Nat) (m : y_m) : y_R sp ph d 287 44 [some (y_bo 11 0 a0), some (y_bi x1)] [y_bo 11 0 as0] m = y_R sp ph d 287 45 [some (y_bo 11 0 a0), some (y_bi x1)] [y_bi 0, y_bo 11 0 as0] m := (y_R_eq (md := z_md_287) rfl rfl).trans rfl
set_option maxRecDepth 4000 in
theorem y_E_287_45 (d : Nat) (a0 : Nat) (x1 : Int) (xs0 : Int) (as1 : Nat) (m : y_m) : y_R sp ph d 287 45 [some (y_bo 11 0 a0), some (y_bi x1)] [y_bi xs0, y_bo 11 0 as1] m = y_bI (y_V sp ph d 179 [y_bo 11 0 as1, y_bi xs0, y_bi 2] m) (fun v1 m1 => if z_w v1 = 0 then y_R sp ph d 287 54 [some (y_bo 11 0 a0), some (y_bi x1)] [] m1 else y_R sp ph d 287 52 [none, none] [] m1) (fun e m1 => y_px e m1) := by
  rw [y_R_eq (md := z_md_287) rfl rfl]
  exact (y_bIc fun v1 m1 => (y_sh (L' := [some (y_bo 11 0 a0), some (y_bi x1)]) (S' := [y_bi v1]) rfl rfl rfl))
set_option maxRecDepth 4000 in
theorem y_E_287_52 (d : Nat) (m : y_m) : y_R sp ph d 287 52 [none, none] [] m = y_rI 0 m := (y_R_eq (md := z_md_287) rfl rfl).trans rfl
set_option maxRecDepth 4000 in
theorem y_E_287_54 (d : Nat) (a0 : Nat) (x1 : Int) (m : y_m) : y_R sp ph d 287 54 [some (y_bo 11 0 a0), some (y_bi x1)] [] m = y_bI (y_V sp ph d 286 [y_bo 11 0 a0, y_bo 100 12 54, y_bi (y_mI m a0 13), y_bi x1] m) (fun v1 m1 => y_rI v1 m1) (fun e m1 => y_px e m1) := by
  rw [y_R_eq (md := z_md_287) rfl rfl]
  exact (y_bIc fun v1 m1 => (y_sh (L' := [some (y_bo 11 0 a0), some (y_bi x1)]) (S' := [y_bi v1]) rfl rfl rfl))
set_option maxRecDepth 4000 in
theorem y_C_287 (d : Nat) (a0 : Nat) (x1 : Int) (m : y_m) : y_V sp ph (d + 1) 287 [y_bo 11 0 a0, y_bi x1] m = y_R sp ph d 287 0 [some (y_bo 11 0 a0), some (y_bi x1)] [] m := (y_V_eq (md := z_md_287) rfl rfl rfl).trans rfl
/-! LacedHolesModel.keep ()I -/
set_option maxRecDepth 4000 in
theorem y_E_288_0 (d : Nat) (a0 : Nat) (m : y_m) : y_R sp ph d 288 0 [some (y_bo 11 0 a0), none] [] m = y_bI (y_V sp ph d 230 [y_bo 11 0 a0] (y_sI m a0 0 0)) (fun v1 m1 => if z_w v1 = 0 then y_R sp ph d 288 14 [some (y_bo 11 0 a0), none] [] m1 else y_rI 0 m1) (fun e m1 => y_px e m1) := by
  rw [y_R_eq (md := z_md_288) rfl rfl]
  exact (y_bIc fun v1 m1 => (y_sh (L' := [some (y_bo 11 0 a0), none]) (S' := [y_bi v1]) rfl rfl rfl))
set_option maxRecDepth 4000 in
theorem y_E_288_14 (d : Nat) (a0 : Nat) (m : y_m) : y_R sp ph d 288 14 [some (y_bo 11 0 a0), none] [] m = if ¬ z_w (y_mI m a0 15) = 4 then y_R sp ph d 288 24 [some (y_bo 11 0 a0), none] [] m else y_rI (-1) m := (y_R_eq (md := z_md_288) rfl rfl).trans rfl
set_option maxRecDepth 4000 in
theorem y_E_288_24 (d : Nat) (a0 : Nat) (m : y_m) : y_R sp ph d 288 24 [some (y_bo 11 0 a0), none] [] m = y_R sp ph d 288 26 [some (y_bo 11 0 a0), some (y_bi 0)] [] m := (y_R_eq (md := z_md_288) rfl rfl).trans rfl
set_option maxRecDepth 4000 in
theorem y_E_288_26 (d : Nat) (a0 : Nat) (x1 : Int) (m : y_m) : y_R sp ph d 288 26 [some (y_bo 11 0 a0), some (y_bi x1)] [] m = if z_w (y_mI m a0 13) ≤ z_w x1 then y_R sp ph d 288 57 [some (y_bo 11 0 a0), none] [] m else y_g (0 ≤ y_mI m a0 15 ∧ y_mI m a0 15 < (4 : Int)) (y_g (0 ≤ x1 ∧ x1 < (12 : Int)) (y_g (0 ≤ x1 ∧ x1 < (13 : Int)) (y_R sp ph d 288 26 [some (y_bo 11 0 a0), some (y_bi (x1 + 1))] [] (y_sI m (63 + 1 * (y_mI m a0 15).toNat) x1.toNat (y_mI m 54 x1.toNat))))) := (y_R_eq (md := z_md_288) rfl rfl).trans rfl
set_option maxRecDepth 4000 in
theorem y_E_288_57 (d : Nat) (a0 : Nat) (m : y_m) : y_R sp ph d 288 57 [some (y_bo 11 0 a0), none] [] m = y_g (0 ≤ y_mI m a0 15 ∧ y_mI m a0 15 < (4 : Int)) (y_rI (y_mI (y_sI (y_sI m (63 + 1 * (y_mI m a0 15).toNat) 12 (y_mI m a0 13)) a0 15 ((y_mI (y_sI m (63 + 1 * (y_mI m a0 15).toNat) 12 (y_mI m a0 13)) a0 15) + 1)) a0 15) (y_sI (y_sI m (63 + 1 * (y_mI m a0 15).toNat) 12 (y_mI m a0 13)) a0 15 ((y_mI (y_sI m (63 + 1 * (y_mI m a0 15).toNat) 12 (y_mI m a0 13)) a0 15) + 1))) := (y_R_eq (md := z_md_288) rfl rfl).trans rfl
set_option maxRecDepth 4000 in
theorem y_C_288 (d : Nat) (a0 : Nat) (m : y_m) : y_V sp ph (d + 1) 288 [y_bo 11 0 a0] m = y_R sp ph d 288 0 [some (y_bo 11 0 a0), none] [] m := (y_V_eq (md := z_md_288) rfl rfl rfl).trans rfl
/-! LacedHolesModel.drop ()I -/
set_option maxRecDepth 4000 in
theorem y_E_289_0 (d : Nat) (a0 : Nat) (m : y_m) : y_R sp ph d 289 0 [some (y_bo 11 0 a0), none] [] m = y_rI (y_mI (y_sI m a0 0 0) a0 15) (y_sI (y_sI m a0 0 0) a0 15 0) := (y_R_eq (md := z_md_289) rfl rfl).trans rfl
set_option maxRecDepth 4000 in
theorem y_C_289 (d : Nat) (a0 : Nat) (m : y_m) : y_V sp ph (d + 1) 289 [y_bo 11 0 a0] m = y_R sp ph d 289 0 [some (y_bo 11 0 a0), none] [] m := (y_V_eq (md := z_md_289) rfl rfl rfl).trans rfl
/-! LacedHolesModel.shares (II)V -/
set_option maxRecDepth 4000 in
theorem y_E_290_0 (d : Nat) (a0 : Nat) (x1 : Int) (x2 : Int) (m : y_m) : y_R sp ph d 290 0 [some (y_bo 11 0 a0), some (y_bi x1), some (y_bi x2), none, none, none, none, none] [] m = if ¬ z_w x1 = z_w ((y_mI m a0 15) - 1) then y_R sp ph d 290 172 [some (y_bo 11 0 a0), some (y_bi x1), some (y_bi x2), none, none, none, none, none] [] m else y_g (0 ≤ x1 ∧ x1 < (4 : Int)) (y_R sp ph d 290 25 [some (y_bo 11 0 a0), none, none, some (y_bi 0), some (y_bi 0), some (y_bi 0), none, none] [] (y_sI m 103 x1.toNat x2)) := (y_R_eq (md := z_md_290) rfl rfl).trans rfl
set_option maxRecDepth 4000 in
theorem y_E_290_25 (d : Nat) (a0 : Nat) (x3 : Int) (x4 : Int) (x5 : Int) (m : y_m) : y_R sp ph d 290 25 [some (y_bo 11 0 a0), none, none, some (y_bi x3), some (y_bi x4), some (y_bi x5), none, none] [] m = y_bI (y_V sp ph d 199 [y_bo 11 0 a0] m) (fun v1 m1 => if z_w v1 ≤ z_w x5 then y_R sp ph d 290 110 [some (y_bo 11 0 a0), none, none, some (y_bi x3), some (y_bi x4), none, none, none] [] m1 else y_R sp ph d 290 40 [some (y_bo 11 0 a0), none, none, some (y_bi x3), some (y_bi x4), some (y_bi x5), some (y_bi 0), some (y_bi 0)] [] m1) (fun e m1 => y_px e m1) := by
  rw [y_R_eq (md := z_md_290) rfl rfl]
  exact (y_bIc fun v1 m1 => (y_sh (L' := [some (y_bo 11 0 a0), none, none, some (y_bi x3), some (y_bi x4), some (y_bi x5), none, none]) (S' := [y_bi v1, y_bi x5]) rfl rfl rfl))
set_option maxRecDepth 4000 in
theorem y_E_290_40 (d : Nat) (a0 : Nat) (x3 : Int) (x4 : Int) (x5 : Int) (x6 : Int) (x7 : Int) (m : y_m) : y_R sp ph d 290 40 [some (y_bo 11 0 a0), none, none, some (y_bi x3), some (y_bi x4), some (y_bi x5), some (y_bi x6), some (y_bi x7)] [] m = if z_w (y_mI m a0 15) ≤ z_w x7 then y_R sp ph d 290 91 [some (y_bo 11 0 a0), none, none, some (y_bi x3), some (y_bi x4), some (y_bi x5), some (y_bi x6), none] [] m else y_g (0 ≤ x7 ∧ x7 < (4 : Int)) (y_g (0 ≤ x7 ∧ x7 < (4 : Int)) (y_g (0 ≤ x7 ∧ x7 < (4 : Int)) (y_bI (y_V sp ph d 286 [y_bo 11 0 a0, y_bo 100 13 (63 + 1 * x7.toNat), y_bi (y_mI m (63 + 1 * x7.toNat) 12), y_bi x5] m) (fun v1 m1 => y_R sp ph d 290 40 [some (y_bo 11 0 a0), none, none, some (y_bi x3), some (y_bi x4), some (y_bi x5), some (y_bi (x6 + ((y_mI m 103 x7.toNat) * v1))), some (y_bi (x7 + 1))] [] m1) (fun e m1 => y_px e m1)))) := by
  rw [y_R_eq (md := z_md_290) rfl rfl]
  exact (y_ic rfl (y_gc (y_gc (y_gc (y_bIc fun v1 m1 => (y_sh (L' := [some (y_bo 11 0 a0), none, none, some (y_bi x3), some (y_bi x4), some (y_bi x5), some (y_bi x6), some (y_bi x7)]) (S' := [y_bi v1, y_bi (y_mI m 103 x7.toNat), y_bi x6]) rfl rfl rfl))))))
set_option maxRecDepth 4000 in
theorem y_E_290_91 (d : Nat) (a0 : Nat) (x3 : Int) (x4 : Int) (x5 : Int) (x6 : Int) (m : y_m) : y_R sp ph d 290 91 [some (y_bo 11 0 a0), none, none, some (y_bi x3), some (y_bi x4), some (y_bi x5), some (y_bi x6), none] [] m = if z_w x6 ≤ z_w x3 then y_R sp ph d 290 102 [some (y_bo 11 0 a0), none, none, some (y_bi x3), some (y_bi x4), some (y_bi x5), none, none] [] m else y_R sp ph d 290 103 [some (y_bo 11 0 a0), none, none, none, some (y_bi x4), some (y_bi x5), none, none] [y_bi x6] m := (y_R_eq (md := z_md_290) rfl rfl).trans rfl
set_option maxRecDepth 4000 in
theorem y_E_290_102 (d : Nat) (a0 : Nat) (x3 : Int) (x4 : Int) (x5 : Int) (m : y_m) : y_R sp ph d 290 102 [some (y_bo 11 0 a0), none, none, some (y_bi x3), some (y_bi x4), some (y_bi x5), none, none] [] m = y_R sp ph d 290 103 [some (y_bo 11 0 a0), none, none, none, some (y_bi x4), some (y_bi x5), none, none] [y_bi x3] m := (y_R_eq (md := z_md_290) rfl rfl).trans rfl
set_option maxRecDepth 4000 in
theorem y_E_290_103 (d : Nat) (a0 : Nat) (x4 : Int) (x5 : Int) (xs0 : Int) (m : y_m) : y_R sp ph d 290 103 [some (y_bo 11 0 a0), none, none, none, some (y_bi x4), some (y_bi x5), none, none] [y_bi xs0] m = y_R sp ph d 290 25 [some (y_bo 11 0 a0), none, none, some (y_bi xs0), some (y_bi x4), some (y_bi (x5 + 1)), none, none] [] m := (y_R_eq (md := z_md_290) rfl rfl).trans rfl
set_option maxRecDepth 4000 in
theorem y_E_290_110 (d : Nat) (a0 : Nat) (x3 : Int) (x4 : Int) (m : y_m) : y_R sp ph d 290 110 [some (y_bo 11 0 a0), none, none, some (y_bi x3), some (y_bi x4), none, none, none] [] m = y_R sp ph d 290 113 [some (y_bo 11 0 a0), none, none, some (y_bi x3), some (y_bi x4), some (y_bi 0), none, none] [] m := (y_R_eq (md := z_md_290) rfl rfl).trans rfl
set_option maxRecDepth 4000 in
theorem y_E_290_113 (d : Nat) (a0 : Nat) (x3 : Int) (x4 : Int) (x5 : Int) (m : y_m) : y_R sp ph d 290 113 [some (y_bo 11 0 a0), none, none, some (y_bi x3), some (y_bi x4), some (y_bi x5), none, none] [] m = if z_w (y_mI m a0 15) ≤ z_w x5 then y_R sp ph d 290 143 [some (y_bo 11 0 a0), none, none, some (y_bi x3), some (y_bi x4), none, none, none] [] m else y_g (0 ≤ x5 ∧ x5 < (4 : Int)) (y_R sp ph d 290 113 [some (y_bo 11 0 a0), none, none, some (y_bi x3), some (y_bi ((100 * x4) + (y_mI m 103 x5.toNat))), some (y_bi (x5 + 1)), none, none] [] m) := (y_R_eq (md := z_md_290) rfl rfl).trans rfl
set_option maxRecDepth 4000 in
theorem y_E_290_143 (d : Nat) (a0 : Nat) (x3 : Int) (x4 : Int) (m : y_m) : y_R sp ph d 290 143 [some (y_bo 11 0 a0), none, none, some (y_bi x3), some (y_bi x4), none, none, none] [] m = if z_w (y_mI m a0 45) = (-1) then y_R sp ph d 290 160 [some (y_bo 11 0 a0), none, none, some (y_bi x3), some (y_bi x4), none, none, none] [] m else if z_w x3 < z_w (y_mI m a0 45) then y_R sp ph d 290 160 [some (y_bo 11 0 a0), none, none, some (y_bi x3), some (y_bi x4), none, none, none] [] m else y_rV m := (y_R_eq (md := z_md_290) rfl rfl).trans rfl
set_option maxRecDepth 4000 in
theorem y_E_290_160 (d : Nat) (a0 : Nat) (x3 : Int) (x4 : Int) (m : y_m) : y_R sp ph d 290 160 [some (y_bo 11 0 a0), none, none, some (y_bi x3), some (y_bi x4), none, none, none] [] m = y_rV (y_sI (y_sI m a0 45 x3) a0 46 x4) := (y_R_eq (md := z_md_290) rfl rfl).trans rfl
set_option maxRecDepth 4000 in
theorem y_E_290_172 (d : Nat) (a0 : Nat) (x1 : Int) (x2 : Int) (m : y_m) : y_R sp ph d 290 172 [some (y_bo 11 0 a0), some (y_bi x1), some (y_bi x2), none, none, none, none, none] [] m = y_R sp ph d 290 174 [some (y_bo 11 0 a0), some (y_bi x1), some (y_bi x2), some (y_bi 0), none, none, none, none] [] m := (y_R_eq (md := z_md_290) rfl rfl).trans rfl
set_option maxRecDepth 4000 in
theorem y_E_290_174 (d : Nat) (a0 : Nat) (x1 : Int) (x2 : Int) (x3 : Int) (m : y_m) : y_R sp ph d 290 174 [some (y_bo 11 0 a0), some (y_bi x1), some (y_bi x2), some (y_bi x3), none, none, none, none] [] m = if z_w x2 < z_w x3 then y_R sp ph d 290 202 [none, none, none, none, none, none, none, none] [] m else y_g (0 ≤ x1 ∧ x1 < (4 : Int)) (y_bV (y_V sp ph d 290 [y_bo 11 0 a0, y_bi (x1 + 1), y_bi (x2 - x3)] (y_sI m 103 x1.toNat x3)) (fun m1 => y_R sp ph d 290 174 [some (y_bo 11 0 a0), some (y_bi x1), some (y_bi x2), some (y_bi (x3 + 1)), none, none, none, none] [] m1) (fun e m1 => y_px e m1)) := by
  rw [y_R_eq (md := z_md_290) rfl rfl]
  exact (y_ic rfl (y_gc (y_bVc fun m1 => (y_sh (L' := [some (y_bo 11 0 a0), some (y_bi x1), some (y_bi x2), some (y_bi x3), none, none, none, none]) (S' := []) rfl rfl rfl))))
set_option maxRecDepth 4000 in
theorem y_E_290_202 (d : Nat) (m : y_m) : y_R sp ph d 290 202 [none, none, none, none, none, none, none, none] [] m = y_rV m := (y_R_eq (md := z_md_290) rfl rfl).trans rfl
set_option maxRecDepth 4000 in
theorem y_C_290 (d : Nat) (a0 : Nat) (x1 : Int) (x2 : Int) (m : y_m) : y_V sp ph (d + 1) 290 [y_bo 11 0 a0, y_bi x1, y_bi x2] m = y_R sp ph d 290 0 [some (y_bo 11 0 a0), some (y_bi x1), some (y_bi x2), none, none, none, none, none] [] m := (y_V_eq (md := z_md_290) rfl rfl rfl).trans rfl
/-! LacedHolesModel.weeks (II)I -/
set_option maxRecDepth 4000 in
theorem y_E_291_0 (d : Nat) (a0 : Nat) (x1 : Int) (x2 : Int) (m : y_m) : y_R sp ph d 291 0 [some (y_bo 11 0 a0), some (y_bi x1), some (y_bi x2)] [] m = y_bI (y_V sp ph d 180 [y_bi x1, y_bi 1, y_bi 12] (y_sI m a0 0 0)) (fun v1 m1 => if z_w v1 = 0 then y_R sp ph d 291 25 [some (y_bo 11 0 a0), some (y_bi x1), some (y_bi x2)] [y_bo 11 0 a0] m1 else y_bI (y_V sp ph d 180 [y_bi x2, y_bi 0, y_bi 1] m1) (fun v2 m2 => if ¬ z_w v2 = 0 then y_R sp ph d 291 29 [some (y_bo 11 0 a0), some (y_bi x1), some (y_bi x2)] [y_bo 11 0 a0] m2 else y_R sp ph d 291 25 [some (y_bo 11 0 a0), some (y_bi x1), some (y_bi x2)] [y_bo 11 0 a0] m2) (fun e m1 => y_px e m1)) (fun e m1 => y_px e m1) := by
  rw [y_R_eq (md := z_md_291) rfl rfl]
  exact (y_bIc fun v1 m1 => (y_sh (L' := [some (y_bo 11 0 a0), some (y_bi x1), some (y_bi x2)]) (S' := [y_bi v1, y_bo 11 0 a0]) rfl rfl (y_ic rfl (y_bIc fun v2 m2 => (y_sh (L' := [some (y_bo 11 0 a0), some (y_bi x1), some (y_bi x2)]) (S' := [y_bi v2, y_bo 11 0 a0]) rfl rfl rfl)))))
set_option maxRecDepth 4000 in
theorem y_E_291_25 (d : Nat) (a0 : Nat) (x1 : Int) (x2 : Int) (as0 : Nat) (m : y_m) : y_R sp ph d 291 25 [some (y_bo 11 0 a0), some (y_bi x1), some (y_bi x2)] [y_bo 11 0 as0] m = y_R sp ph d 291 30 [some (y_bo 11 0 a0), some (y_bi x1), some (y_bi x2)] [y_bi 1, y_bo 11 0 as0] m := (y_R_eq (md := z_md_291) rfl rfl).trans rfl
set_option maxRecDepth 4000 in
theorem y_E_291_29 (d : Nat) (a0 : Nat) (x1 : Int) (x2 : Int) (as0 : Nat) (m : y_m) : y_R sp ph d 291 29 [some (y_bo 11 0 a0), some (y_bi x1), some (y_bi x2)] [y_bo 11 0 as0] m = y_R sp ph d 291 30 [some (y_bo 11 0 a0), some (y_bi x1), some (y_bi x2)] [y_bi 0, y_bo 11 0 as0] m := (y_R_eq (md := z_md_291) rfl rfl).trans rfl
set_option maxRecDepth 4000 in
theorem y_E_291_30 (d : Nat) (a0 : Nat) (x1 : Int) (x2 : Int) (xs0 : Int) (as1 : Nat) (m : y_m) : y_R sp ph d 291 30 [some (y_bo 11 0 a0), some (y_bi x1), some (y_bi x2)] [y_bi xs0, y_bo 11 0 as1] m = y_bI (y_V sp ph d 179 [y_bo 11 0 as1, y_bi xs0, y_bi 1] m) (fun v1 m1 => if z_w v1 = 0 then y_R sp ph d 291 39 [some (y_bo 11 0 a0), some (y_bi x1), some (y_bi x2)] [] m1 else y_rI 0 m1) (fun e m1 => y_px e m1) := by
  rw [y_R_eq (md := z_md_291) rfl rfl]
  exact (y_bIc fun v1 m1 => (y_sh (L' := [some (y_bo 11 0 a0), some (y_bi x1), some (y_bi x2)]) (S' := [y_bi v1]) rfl rfl rfl))
set_option maxRecDepth 4000 in
theorem y_E_291_39 (d : Nat) (a0 : Nat) (x1 : Int) (x2 : Int) (m : y_m) : y_R sp ph d 291 39 [some (y_bo 11 0 a0), some (y_bi x1), some (y_bi x2)] [] m = if ¬ z_w (y_mI m a0 15) = 0 then y_R sp ph d 291 48 [some (y_bo 11 0 a0), some (y_bi x1), some (y_bi x2)] [] m else y_rI (-1) m := (y_R_eq (md := z_md_291) rfl rfl).trans rfl
set_option maxRecDepth 4000 in
theorem y_E_291_48 (d : Nat) (a0 : Nat) (x1 : Int) (x2 : Int) (m : y_m) : y_R sp ph d 291 48 [some (y_bo 11 0 a0), some (y_bi x1), some (y_bi x2)] [] m = y_bV (y_V sp ph d 290 [y_bo 11 0 a0, y_bi 0, y_bi x1] (y_sI m a0 45 (-1))) (fun m1 => if ¬ z_w x2 = 0 then y_R sp ph d 291 70 [some (y_bo 11 0 a0), none, none] [] m1 else y_R sp ph d 291 74 [none, none, none] [y_bi (y_mI m1 a0 45)] m1) (fun e m1 => y_px e m1) := by
  rw [y_R_eq (md := z_md_291) rfl rfl]
  exact (y_bVc fun m1 => (y_sh (L' := [some (y_bo 11 0 a0), some (y_bi x1), some (y_bi x2)]) (S' := []) rfl rfl rfl))
set_option maxRecDepth 4000 in
theorem y_E_291_70 (d : Nat) (a0 : Nat) (m : y_m) : y_R sp ph d 291 70 [some (y_bo 11 0 a0), none, none] [] m = y_R sp ph d 291 74 [none, none, none] [y_bi (y_mI m a0 46)] m := (y_R_eq (md := z_md_291) rfl rfl).trans rfl
set_option maxRecDepth 4000 in
theorem y_E_291_74 (d : Nat) (xs0 : Int) (m : y_m) : y_R sp ph d 291 74 [none, none, none] [y_bi xs0] m = y_rI xs0 m := (y_R_eq (md := z_md_291) rfl rfl).trans rfl
set_option maxRecDepth 4000 in
theorem y_C_291 (d : Nat) (a0 : Nat) (x1 : Int) (x2 : Int) (m : y_m) : y_V sp ph (d + 1) 291 [y_bo 11 0 a0, y_bi x1, y_bi x2] m = y_R sp ph d 291 0 [some (y_bo 11 0 a0), some (y_bi x1), some (y_bi x2)] [] m := (y_V_eq (md := z_md_291) rfl rfl rfl).trans rfl
/-! LacedHolesModel.draw (I)I -/
set_option maxRecDepth 4000 in
theorem y_E_292_0 (d : Nat) (a0 : Nat) (x1 : Int) (m : y_m) : y_R sp ph d 292 0 [some (y_bo 11 0 a0), some (y_bi x1), none, none] [] m = y_bI (y_V sp ph d 200 [y_bo 11 0 a0] (y_sI m a0 0 0)) (fun v1 m1 => y_bI (y_V sp ph d 201 [y_bi v1] m1) (fun v2 m2 => if 3 ≤ z_w v2 then y_R sp ph d 292 20 [some (y_bo 11 0 a0), some (y_bi x1), none, none] [] m2 else y_R sp ph d 292 28 [some (y_bo 11 0 a0), some (y_bi x1), none, none] [y_bl 0] m2) (fun e m1 => y_px e m1)) (fun e m1 => y_px e m1) := by
  rw [y_R_eq (md := z_md_292) rfl rfl]
  exact (y_bIc fun v1 m1 => (y_sh (L' := [some (y_bo 11 0 a0), some (y_bi x1), none, none]) (S' := [y_bi v1]) rfl rfl (y_bIc fun v2 m2 => (y_sh (L' := [some (y_bo 11 0 a0), some (y_bi x1), none, none]) (S' := [y_bi v2]) rfl rfl rfl))))
set_option maxRecDepth 4000 in
theorem y_E_292_20 (d : Nat) (a0 : Nat) (x1 : Int) (m : y_m) : y_R sp ph d 292 20 [some (y_bo 11 0 a0), some (y_bi x1), none, none] [] m = y_bI (y_V sp ph d 200 [y_bo 11 0 a0] m) (fun v1 m1 => y_bL (y_V sp ph d 242 [y_bo 11 0 a0, y_bi v1] m1) (fun v2 m2 => y_R sp ph d 292 28 [some (y_bo 11 0 a0), some (y_bi x1), none, none] [y_bl v2] m2) (fun e m1 => y_px e m1)) (fun e m1 => y_px e m1) := by
  rw [y_R_eq (md := z_md_292) rfl rfl]
  exact (y_bIc fun v1 m1 => (y_sh (L' := [some (y_bo 11 0 a0), some (y_bi x1), none, none]) (S' := [y_bi v1, y_bo 11 0 a0]) rfl rfl (y_bLc fun v2 m2 => (y_sh (L' := [some (y_bo 11 0 a0), some (y_bi x1), none, none]) (S' := [y_bl v2]) rfl rfl rfl))))
set_option maxRecDepth 4000 in
theorem y_E_292_28 (d : Nat) (a0 : Nat) (x1 : Int) (xs0 : Int) (m : y_m) : y_R sp ph d 292 28 [some (y_bo 11 0 a0), some (y_bi x1), none, none] [y_bl xs0] m = if ¬ z_w (z_lcmp xs0 0) = 0 then y_R sp ph d 292 37 [some (y_bo 11 0 a0), some (y_bi x1), some (y_bl xs0), none] [] m else y_rI (-1) m := (y_R_eq (md := z_md_292) rfl rfl).trans rfl
set_option maxRecDepth 4000 in
theorem y_E_292_37 (d : Nat) (a0 : Nat) (x1 : Int) (x2 : Int) (m : y_m) : y_R sp ph d 292 37 [some (y_bo 11 0 a0), some (y_bi x1), some (y_bl x2), none] [] m = y_bI (y_V sp ph d 200 [y_bo 11 0 a0] m) (fun v1 m1 => y_g (z_wl x2 ≠ 0) (y_bI (y_V sp ph d 244 [y_bo 11 0 a0, y_bi v1, y_bl (z_lrem (z_w (z_idiv (z_iand x1 2147483647) 2)) x2)] m1) (fun v2 m2 => y_bV (y_V sp ph d 196 [y_bo 11 0 a0, y_bo 100 12 97, y_bi (y_mI m2 a0 33)] m2) (fun m3 => y_rI (y_mI m3 a0 33) m3) (fun e m1 => y_px e m1)) (fun e m1 => y_px e m1))) (fun e m1 => y_px e m1) := by
  rw [y_R_eq (md := z_md_292) rfl rfl]
  exact (y_bIc fun v1 m1 => (y_sh (L' := [some (y_bo 11 0 a0), some (y_bi x1), some (y_bl x2), none]) (S' := [y_bi v1, y_bo 11 0 a0]) rfl rfl (y_gc (y_bIc fun v2 m2 => (y_sh (L' := [some (y_bo 11 0 a0), some (y_bi x1), some (y_bl x2), none]) (S' := [y_bi v2]) rfl rfl (y_bVc fun m3 => (y_sh (L' := [some (y_bo 11 0 a0), some (y_bi x1), some (y_bl x2), none]) (S' := []) rfl rfl rfl)))))))
set_option maxRecDepth 4000 in
theorem y_C_292 (d : Nat) (a0 : Nat) (x1 : Int) (m : y_m) : y_V sp ph (d + 1) 292 [y_bo 11 0 a0, y_bi x1] m = y_R sp ph d 292 0 [some (y_bo 11 0 a0), some (y_bi x1), none, none] [] m := (y_V_eq (md := z_md_292) rfl rfl rfl).trans rfl
/-! LacedHolesModel.moves ([IIZ)I -/
set_option maxRecDepth 4000 in
theorem y_E_293_0 (d : Nat) (a0 : Nat) (a1 : Nat) (n1 : Nat) (x2 : Int) (x3 : Int) (m : y_m) : y_R sp ph d 293 0 [some (y_bo 11 0 a0), some (y_bo 100 n1 a1), some (y_bi x2), some (y_bi x3)] [] m = if ¬ z_w x3 = 0 then y_R sp ph d 293 11 [some (y_bo 11 0 a0), some (y_bo 100 n1 a1), none, none] [] m else y_g (0 ≤ y_mI m a0 17 ∧ y_mI m a0 17 < (n1 : Int)) (y_R sp ph d 293 11 [some (y_bo 11 0 a0), some (y_bo 100 n1 a1), none, none] [] (y_sI m a1 (y_mI m a0 17).toNat x2)) := (y_R_eq (md := z_md_293) rfl rfl).trans rfl
set_option maxRecDepth 4000 in
theorem y_E_293_11 (d : Nat) (a0 : Nat) (a1 : Nat) (n1 : Nat) (m : y_m) : y_R sp ph d 293 11 [some (y_bo 11 0 a0), some (y_bo 100 n1 a1), none, none] [] m = y_g (0 ≤ (y_mI (y_sI m a0 17 ((y_mI m a0 17) + 1)) a0 17) - 1 ∧ (y_mI (y_sI m a0 17 ((y_mI m a0 17) + 1)) a0 17) - 1 < (n1 : Int)) (y_rI (y_mI (y_sI m a0 17 ((y_mI m a0 17) + 1)) a1 ((y_mI (y_sI m a0 17 ((y_mI m a0 17) + 1)) a0 17) - 1).toNat) (y_sI m a0 17 ((y_mI m a0 17) + 1))) := (y_R_eq (md := z_md_293) rfl rfl).trans rfl
set_option maxRecDepth 4000 in
theorem y_C_293 (d : Nat) (a0 : Nat) (a1 : Nat) (n1 : Nat) (x2 : Int) (x3 : Int) (m : y_m) : y_V sp ph (d + 1) 293 [y_bo 11 0 a0, y_bo 100 n1 a1, y_bi x2, y_bi x3] m = y_R sp ph d 293 0 [some (y_bo 11 0 a0), some (y_bo 100 n1 a1), some (y_bi x2), some (y_bi x3)] [] m := (y_V_eq (md := z_md_293) rfl rfl rfl).trans rfl
/-! LacedHolesModel.movesAll ([IZ)V -/
set_option maxRecDepth 4000 in
theorem y_E_294_0 (d : Nat) (a0 : Nat) (a1 : Nat) (n1 : Nat) (x2 : Int) (m : y_m) : y_R sp ph d 294 0 [some (y_bo 11 0 a0), some (y_bo 100 n1 a1), some (y_bi x2), none, none] [] m = y_bI (y_V sp ph d 293 [y_bo 11 0 a0, y_bo 100 n1 a1, y_bi (y_mI (y_sI m a0 17 0) a0 13), y_bi x2] (y_sI m a0 17 0)) (fun v1 m1 => y_bI (y_V sp ph d 293 [y_bo 11 0 a0, y_bo 100 n1 a1, y_bi (y_mI (y_sI m1 a0 13 v1) a0 14), y_bi x2] (y_sI m1 a0 13 v1)) (fun v2 m2 => y_bI (y_V sp ph d 293 [y_bo 11 0 a0, y_bo 100 n1 a1, y_bi (y_mI (y_sI m2 a0 14 v2) a0 15), y_bi x2] (y_sI m2 a0 14 v2)) (fun v3 m3 => y_R sp ph d 294 49 [some (y_bo 11 0 a0), some (y_bo 100 n1 a1), some (y_bi x2), some (y_bi 0), none] [] (y_sI m3 a0 15 v3)) (fun e m1 => y_px e m1)) (fun e m1 => y_px e m1)) (fun e m1 => y_px e m1) := by
  rw [y_R_eq (md := z_md_294) rfl rfl]
  exact (y_bIc fun v1 m1 => (y_sh (L' := [some (y_bo 11 0 a0), some (y_bo 100 n1 a1), some (y_bi x2), none, none]) (S' := [y_bi v1, y_bo 11 0 a0]) rfl rfl (y_bIc fun v2 m2 => (y_sh (L' := [some (y_bo 11 0 a0), some (y_bo 100 n1 a1), some (y_bi x2), none, none]) (S' := [y_bi v2, y_bo 11 0 a0]) rfl rfl (y_bIc fun v3 m3 => (y_sh (L' := [some (y_bo 11 0 a0), some (y_bo 100 n1 a1), some (y_bi x2), none, none]) (S' := [y_bi v3, y_bo 11 0 a0]) rfl rfl rfl))))))
set_option maxRecDepth 4000 in
theorem y_E_294_49 (d : Nat) (a0 : Nat) (a1 : Nat) (n1 : Nat) (x2 : Int) (x3 : Int) (m : y_m) : y_R sp ph d 294 49 [some (y_bo 11 0 a0), some (y_bo 100 n1 a1), some (y_bi x2), some (y_bi x3), none] [] m = if 12 ≤ z_w x3 then y_R sp ph d 294 79 [some (y_bo 11 0 a0), some (y_bo 100 n1 a1), some (y_bi x2), none, none] [] m else y_g (0 ≤ x3 ∧ x3 < (12 : Int)) (y_bI (y_V sp ph d 293 [y_bo 11 0 a0, y_bo 100 n1 a1, y_bi (y_mI m 54 x3.toNat), y_bi x2] m) (fun v1 m1 => y_g (0 ≤ x3 ∧ x3 < (12 : Int)) (y_R sp ph d 294 49 [some (y_bo 11 0 a0), some (y_bo 100 n1 a1), some (y_bi x2), some (y_bi (x3 + 1)), none] [] (y_sI m1 54 x3.toNat v1))) (fun e m1 => y_px e m1)) := by
  rw [y_R_eq (md := z_md_294) rfl rfl]
  exact (y_ic rfl (y_gc (y_bIc fun v1 m1 => (y_sh (L' := [some (y_bo 11 0 a0), some (y_bo 100 n1 a1), some (y_bi x2), some (y_bi x3), none]) (S' := [y_bi v1, y_bi x3, y_bo 100 12 54]) rfl rfl rfl))))
set_option maxRecDepth 4000 in
theorem y_E_294_79 (d : Nat) (a0 : Nat) (a1 : Nat) (n1 : Nat) (x2 : Int) (m : y_m) : y_R sp ph d 294 79 [some (y_bo 11 0 a0), some (y_bo 100 n1 a1), some (y_bi x2), none, none] [] m = y_R sp ph d 294 81 [some (y_bo 11 0 a0), some (y_bo 100 n1 a1), some (y_bi x2), some (y_bi 0), none] [] m := (y_R_eq (md := z_md_294) rfl rfl).trans rfl
set_option maxRecDepth 4000 in
theorem y_E_294_81 (d : Nat) (a0 : Nat) (a1 : Nat) (n1 : Nat) (x2 : Int) (x3 : Int) (m : y_m) : y_R sp ph d 294 81 [some (y_bo 11 0 a0), some (y_bo 100 n1 a1), some (y_bi x2), some (y_bi x3), none] [] m = if 6 ≤ z_w x3 then y_R sp ph d 294 132 [some (y_bo 11 0 a0), some (y_bo 100 n1 a1), some (y_bi x2), none, none] [] m else y_R sp ph d 294 90 [some (y_bo 11 0 a0), some (y_bo 100 n1 a1), some (y_bi x2), some (y_bi x3), some (y_bi 0)] [] m := (y_R_eq (md := z_md_294) rfl rfl).trans rfl
set_option maxRecDepth 4000 in
theorem y_E_294_90 (d : Nat) (a0 : Nat) (a1 : Nat) (n1 : Nat) (x2 : Int) (x3 : Int) (x4 : Int) (m : y_m) : y_R sp ph d 294 90 [some (y_bo 11 0 a0), some (y_bo 100 n1 a1), some (y_bi x2), some (y_bi x3), some (y_bi x4)] [] m = if 2 ≤ z_w x4 then y_R sp ph d 294 126 [some (y_bo 11 0 a0), some (y_bo 100 n1 a1), some (y_bi x2), some (y_bi x3), none] [] m else y_g (0 ≤ x3 ∧ x3 < (6 : Int)) (y_g (0 ≤ x3 ∧ x3 < (6 : Int)) (y_g (0 ≤ x4 ∧ x4 < (2 : Int)) (y_bI (y_V sp ph d 293 [y_bo 11 0 a0, y_bo 100 n1 a1, y_bi (y_mI m (56 + 1 * x3.toNat) x4.toNat), y_bi x2] m) (fun v1 m1 => y_g (0 ≤ x4 ∧ x4 < (2 : Int)) (y_R sp ph d 294 90 [some (y_bo 11 0 a0), some (y_bo 100 n1 a1), some (y_bi x2), some (y_bi x3), some (y_bi (x4 + 1))] [] (y_sI m1 (56 + 1 * x3.toNat) x4.toNat v1))) (fun e m1 => y_px e m1)))) := by
  rw [y_R_eq (md := z_md_294) rfl rfl]
  exact (y_ic rfl (y_gc (y_gc (y_gc (y_bIc fun v1 m1 => (y_sh (L' := [some (y_bo 11 0 a0), some (y_bo 100 n1 a1), some (y_bi x2), some (y_bi x3), some (y_bi x4)]) (S' := [y_bi v1, y_bi x4, y_bo 100 2 (56 + 1 * x3.toNat)]) rfl rfl rfl))))))
set_option maxRecDepth 4000 in
theorem y_E_294_126 (d : Nat) (a0 : Nat) (a1 : Nat) (n1 : Nat) (x2 : Int) (x3 : Int) (m : y_m) : y_R sp ph d 294 126 [some (y_bo 11 0 a0), some (y_bo 100 n1 a1), some (y_bi x2), some (y_bi x3), none] [] m = y_R sp ph d 294 81 [some (y_bo 11 0 a0), some (y_bo 100 n1 a1), some (y_bi x2), some (y_bi (x3 + 1)), none] [] m := (y_R_eq (md := z_md_294) rfl rfl).trans rfl
set_option maxRecDepth 4000 in
theorem y_E_294_132 (d : Nat) (a0 : Nat) (a1 : Nat) (n1 : Nat) (x2 : Int) (m : y_m) : y_R sp ph d 294 132 [some (y_bo 11 0 a0), some (y_bo 100 n1 a1), some (y_bi x2), none, none] [] m = y_R sp ph d 294 134 [some (y_bo 11 0 a0), some (y_bo 100 n1 a1), some (y_bi x2), some (y_bi 0), none] [] m := (y_R_eq (md := z_md_294) rfl rfl).trans rfl
set_option maxRecDepth 4000 in
theorem y_E_294_134 (d : Nat) (a0 : Nat) (a1 : Nat) (n1 : Nat) (x2 : Int) (x3 : Int) (m : y_m) : y_R sp ph d 294 134 [some (y_bo 11 0 a0), some (y_bo 100 n1 a1), some (y_bi x2), some (y_bi x3), none] [] m = if 4 ≤ z_w x3 then y_R sp ph d 294 185 [none, none, none, none, none] [] m else y_R sp ph d 294 142 [some (y_bo 11 0 a0), some (y_bo 100 n1 a1), some (y_bi x2), some (y_bi x3), some (y_bi 0)] [] m := (y_R_eq (md := z_md_294) rfl rfl).trans rfl
set_option maxRecDepth 4000 in
theorem y_E_294_142 (d : Nat) (a0 : Nat) (a1 : Nat) (n1 : Nat) (x2 : Int) (x3 : Int) (x4 : Int) (m : y_m) : y_R sp ph d 294 142 [some (y_bo 11 0 a0), some (y_bo 100 n1 a1), some (y_bi x2), some (y_bi x3), some (y_bi x4)] [] m = if 12 < z_w x4 then y_R sp ph d 294 179 [some (y_bo 11 0 a0), some (y_bo 100 n1 a1), some (y_bi x2), some (y_bi x3), none] [] m else y_g (0 ≤ x3 ∧ x3 < (4 : Int)) (y_g (0 ≤ x3 ∧ x3 < (4 : Int)) (y_g (0 ≤ x4 ∧ x4 < (13 : Int)) (y_bI (y_V sp ph d 293 [y_bo 11 0 a0, y_bo 100 n1 a1, y_bi (y_mI m (63 + 1 * x3.toNat) x4.toNat), y_bi x2] m) (fun v1 m1 => y_g (0 ≤ x4 ∧ x4 < (13 : Int)) (y_R sp ph d 294 142 [some (y_bo 11 0 a0), some (y_bo 100 n1 a1), some (y_bi x2), some (y_bi x3), some (y_bi (x4 + 1))] [] (y_sI m1 (63 + 1 * x3.toNat) x4.toNat v1))) (fun e m1 => y_px e m1)))) := by
  rw [y_R_eq (md := z_md_294) rfl rfl]
  exact (y_ic rfl (y_gc (y_gc (y_gc (y_bIc fun v1 m1 => (y_sh (L' := [some (y_bo 11 0 a0), some (y_bo 100 n1 a1), some (y_bi x2), some (y_bi x3), some (y_bi x4)]) (S' := [y_bi v1, y_bi x4, y_bo 100 13 (63 + 1 * x3.toNat)]) rfl rfl rfl))))))
set_option maxRecDepth 4000 in
theorem y_E_294_179 (d : Nat) (a0 : Nat) (a1 : Nat) (n1 : Nat) (x2 : Int) (x3 : Int) (m : y_m) : y_R sp ph d 294 179 [some (y_bo 11 0 a0), some (y_bo 100 n1 a1), some (y_bi x2), some (y_bi x3), none] [] m = y_R sp ph d 294 134 [some (y_bo 11 0 a0), some (y_bo 100 n1 a1), some (y_bi x2), some (y_bi (x3 + 1)), none] [] m := (y_R_eq (md := z_md_294) rfl rfl).trans rfl
set_option maxRecDepth 4000 in
theorem y_E_294_185 (d : Nat) (m : y_m) : y_R sp ph d 294 185 [none, none, none, none, none] [] m = y_rV m := (y_R_eq (md := z_md_294) rfl rfl).trans rfl
set_option maxRecDepth 4000 in
theorem y_C_294 (d : Nat) (a0 : Nat) (a1 : Nat) (n1 : Nat) (x2 : Int) (m : y_m) : y_V sp ph (d + 1) 294 [y_bo 11 0 a0, y_bo 100 n1 a1, y_bi x2] m = y_R sp ph d 294 0 [some (y_bo 11 0 a0), some (y_bo 100 n1 a1), some (y_bi x2), none, none] [] m := (y_V_eq (md := z_md_294) rfl rfl rfl).trans rfl
/-! LacedHolesModel.image ()I -/
set_option maxRecDepth 4000 in
theorem y_E_295_0 (d : Nat) (a0 : Nat) (m : y_m) : y_R sp ph d 295 0 [some (y_bo 11 0 a0)] [] m = if ¬ z_w (y_mI (y_sI m a0 0 0) a0 16) = 3 then y_R sp ph d 295 15 [some (y_bo 11 0 a0)] [] (y_sI m a0 0 0) else y_rI (-1) (y_sI m a0 0 0) := (y_R_eq (md := z_md_295) rfl rfl).trans rfl
set_option maxRecDepth 4000 in
theorem y_E_295_15 (d : Nat) (a0 : Nat) (m : y_m) : y_R sp ph d 295 15 [some (y_bo 11 0 a0)] [] m = y_g (0 ≤ y_mI m a0 16 ∧ y_mI m a0 16 < (3 : Int)) (y_bV (y_V sp ph d 294 [y_bo 11 0 a0, y_bo 100 79 (68 + 1 * (y_mI m a0 16).toNat), y_bi 0] m) (fun m1 => y_rI (y_mI (y_sI m1 a0 16 ((y_mI m1 a0 16) + 1)) a0 16) (y_sI m1 a0 16 ((y_mI m1 a0 16) + 1))) (fun e m1 => y_px e m1)) := by
  rw [y_R_eq (md := z_md_295) rfl rfl]
  exact (y_gc (y_bVc fun m1 => (y_sh (L' := [some (y_bo 11 0 a0)]) (S' := []) rfl rfl rfl)))
set_option maxRecDepth 4000 in
theorem y_C_295 (d : Nat) (a0 : Nat) (m : y_m) : y_V sp ph (d + 1) 295 [y_bo 11 0 a0] m = y_R sp ph d 295 0 [some (y_bo 11 0 a0)] [] m := (y_V_eq (md := z_md_295) rfl rfl rfl).trans rfl
/-! LacedHolesModel.restore ()I -/
set_option maxRecDepth 4000 in
theorem y_E_296_0 (d : Nat) (a0 : Nat) (m : y_m) : y_R sp ph d 296 0 [some (y_bo 11 0 a0)] [] m = if ¬ z_w (y_mI (y_sI m a0 0 0) a0 16) = 0 then y_R sp ph d 296 14 [some (y_bo 11 0 a0)] [] (y_sI m a0 0 0) else y_rI (-1) (y_sI m a0 0 0) := (y_R_eq (md := z_md_296) rfl rfl).trans rfl
set_option maxRecDepth 4000 in
theorem y_E_296_14 (d : Nat) (a0 : Nat) (m : y_m) : y_R sp ph d 296 14 [some (y_bo 11 0 a0)] [] m = y_g (0 ≤ y_mI (y_sI m a0 16 ((y_mI m a0 16) - 1)) a0 16 ∧ y_mI (y_sI m a0 16 ((y_mI m a0 16) - 1)) a0 16 < (3 : Int)) (y_bV (y_V sp ph d 294 [y_bo 11 0 a0, y_bo 100 79 (68 + 1 * (y_mI (y_sI m a0 16 ((y_mI m a0 16) - 1)) a0 16).toNat), y_bi 1] (y_sI m a0 16 ((y_mI m a0 16) - 1))) (fun m1 => y_rI (y_mI m1 a0 16) m1) (fun e m1 => y_px e m1)) := by
  rw [y_R_eq (md := z_md_296) rfl rfl]
  exact (y_gc (y_bVc fun m1 => (y_sh (L' := [some (y_bo 11 0 a0)]) (S' := []) rfl rfl rfl)))
set_option maxRecDepth 4000 in
theorem y_C_296 (d : Nat) (a0 : Nat) (m : y_m) : y_V sp ph (d + 1) 296 [y_bo 11 0 a0] m = y_R sp ph d 296 0 [some (y_bo 11 0 a0)] [] m := (y_V_eq (md := z_md_296) rfl rfl rfl).trans rfl
/-! LacedHolesModel.sums (I)I -/
set_option maxRecDepth 4000 in
theorem y_E_297_0_d (d : Nat) (a0 : Nat) (x1 : Int) (m : y_m) (h : z_w x1 < 0 ∨ 3 < z_w x1) : y_R sp ph d 297 0 [some (y_bo 11 0 a0), some (y_bi x1)] [] m = y_R sp ph d 297 56 [none, none] [] (y_sI m a0 0 0) := by
  rw [y_R_eq (md := z_md_297) rfl rfl]
  exact (by
    show (if z_w x1 < _ ∨ _ < z_w x1 then _ else _) = _
    rw [if_pos h]; rfl)
set_option maxRecDepth 4000 in
theorem y_E_297_0_0 (d : Nat) (a0 : Nat) (x1 : Int) (m : y_m) (h : z_w x1 = 0) : y_R sp ph d 297 0 [some (y_bo 11 0 a0), some (y_bi x1)] [] m = y_R sp ph d 297 36 [some (y_bo 11 0 a0), none] [] (y_sI m a0 0 0) := by
  rw [y_R_eq (md := z_md_297) rfl rfl]
  exact (by
    show (if z_w x1 < _ ∨ _ < z_w x1 then _ else _) = _
    rw [h]; rfl)
set_option maxRecDepth 4000 in
theorem y_E_297_0_1 (d : Nat) (a0 : Nat) (x1 : Int) (m : y_m) (h : z_w x1 = 1) : y_R sp ph d 297 0 [some (y_bo 11 0 a0), some (y_bi x1)] [] m = y_R sp ph d 297 41 [some (y_bo 11 0 a0), none] [] (y_sI m a0 0 0) := by
  rw [y_R_eq (md := z_md_297) rfl rfl]
  exact (by
    show (if z_w x1 < _ ∨ _ < z_w x1 then _ else _) = _
    rw [h]; rfl)
set_option maxRecDepth 4000 in
theorem y_E_297_0_2 (d : Nat) (a0 : Nat) (x1 : Int) (m : y_m) (h : z_w x1 = 2) : y_R sp ph d 297 0 [some (y_bo 11 0 a0), some (y_bi x1)] [] m = y_R sp ph d 297 46 [some (y_bo 11 0 a0), none] [] (y_sI m a0 0 0) := by
  rw [y_R_eq (md := z_md_297) rfl rfl]
  exact (by
    show (if z_w x1 < _ ∨ _ < z_w x1 then _ else _) = _
    rw [h]; rfl)
set_option maxRecDepth 4000 in
theorem y_E_297_0_3 (d : Nat) (a0 : Nat) (x1 : Int) (m : y_m) (h : z_w x1 = 3) : y_R sp ph d 297 0 [some (y_bo 11 0 a0), some (y_bi x1)] [] m = y_R sp ph d 297 51 [some (y_bo 11 0 a0), none] [] (y_sI m a0 0 0) := by
  rw [y_R_eq (md := z_md_297) rfl rfl]
  exact (by
    show (if z_w x1 < _ ∨ _ < z_w x1 then _ else _) = _
    rw [h]; rfl)
set_option maxRecDepth 4000 in
theorem y_E_297_36 (d : Nat) (a0 : Nat) (m : y_m) : y_R sp ph d 297 36 [some (y_bo 11 0 a0), none] [] m = y_rI (y_mI m a0 15) m := (y_R_eq (md := z_md_297) rfl rfl).trans rfl
set_option maxRecDepth 4000 in
theorem y_E_297_41 (d : Nat) (a0 : Nat) (m : y_m) : y_R sp ph d 297 41 [some (y_bo 11 0 a0), none] [] m = y_rI (y_mI m a0 14) m := (y_R_eq (md := z_md_297) rfl rfl).trans rfl
set_option maxRecDepth 4000 in
theorem y_E_297_46 (d : Nat) (a0 : Nat) (m : y_m) : y_R sp ph d 297 46 [some (y_bo 11 0 a0), none] [] m = y_rI (y_mI m a0 16) m := (y_R_eq (md := z_md_297) rfl rfl).trans rfl
set_option maxRecDepth 4000 in
theorem y_E_297_51 (d : Nat) (a0 : Nat) (m : y_m) : y_R sp ph d 297 51 [some (y_bo 11 0 a0), none] [] m = y_rI (y_mI m a0 1) m := (y_R_eq (md := z_md_297) rfl rfl).trans rfl
set_option maxRecDepth 4000 in
theorem y_E_297_56 (d : Nat) (m : y_m) : y_R sp ph d 297 56 [none, none] [] m = y_rI (-1) m := (y_R_eq (md := z_md_297) rfl rfl).trans rfl
set_option maxRecDepth 4000 in
theorem y_C_297 (d : Nat) (a0 : Nat) (x1 : Int) (m : y_m) : y_V sp ph (d + 1) 297 [y_bo 11 0 a0, y_bi x1] m = y_R sp ph d 297 0 [some (y_bo 11 0 a0), some (y_bi x1)] [] m := (y_V_eq (md := z_md_297) rfl rfl rfl).trans rfl
end YEq176_297
