/-! ===== the methods' texts, checked (0) ===== -/
/-- java/lang/Integer.numberOfTrailingZeros(I)I -/
def z_B_0 : z_Bk := [(0, [true, false], [(.iload_n 0, 0, 0, 0, 0), (.iconst (-1), 1, 0, 0, 0), (.ixor, 2, 0, 0, 0), (.iload_n 0, 3, 0, 0, 0), (.iconst 1, 4, 0, 0, 0), (.isub, 5, 0, 0, 0), (.iand, 6, 0, 0, 0), (.istore_n 0, 7, 0, 0, 0), (.iload_n 0, 8, 0, 0, 0), (.ifCond .gt 8, 9, 0, 0, 0), (.iload_n 0, 12, 0, 0, 0), (.bipush 32, 13, 0, 0, 0), (.iand, 15, 0, 0, 0), (.ireturn, 16, 0, 0, 0)], 17),
  (17, [true, false], [(.iconst 1, 17, 0, 0, 0), (.istore_n 1, 18, 0, 0, 0), (.iload_n 0, 19, 0, 0, 0), (.ldc_w 264, 20, 0, 1, 65536), (.if_icmp .le 11, 23, 0, 0, 0), (.iinc 1 16, 26, 0, 0, 0), (.iload_n 0, 29, 0, 0, 0), (.bipush 16, 30, 0, 0, 0), (.iushr, 32, 0, 0, 0), (.istore_n 0, 33, 0, 0, 0)], 34),
  (34, [true, true], [(.iload_n 0, 34, 0, 0, 0), (.sipush 256, 35, 0, 0, 0), (.if_icmp .le 11, 38, 0, 0, 0), (.iinc 1 8, 41, 0, 0, 0), (.iload_n 0, 44, 0, 0, 0), (.bipush 8, 45, 0, 0, 0), (.iushr, 47, 0, 0, 0), (.istore_n 0, 48, 0, 0, 0)], 49),
  (49, [true, true], [(.iload_n 0, 49, 0, 0, 0), (.bipush 16, 50, 0, 0, 0), (.if_icmp .le 10, 52, 0, 0, 0), (.iinc 1 4, 55, 0, 0, 0), (.iload_n 0, 58, 0, 0, 0), (.iconst 4, 59, 0, 0, 0), (.iushr, 60, 0, 0, 0), (.istore_n 0, 61, 0, 0, 0)], 62),
  (62, [true, true], [(.iload_n 0, 62, 0, 0, 0), (.iconst 4, 63, 0, 0, 0), (.if_icmp .le 10, 64, 0, 0, 0), (.iinc 1 2, 67, 0, 0, 0), (.iload_n 0, 70, 0, 0, 0), (.iconst 2, 71, 0, 0, 0), (.iushr, 72, 0, 0, 0), (.istore_n 0, 73, 0, 0, 0)], 74),
  (74, [true, true], [(.iload_n 1, 74, 0, 0, 0), (.iload_n 0, 75, 0, 0, 0), (.iconst 1, 76, 0, 0, 0), (.iushr, 77, 0, 0, 0), (.iadd, 78, 0, 0, 0), (.ireturn, 79, 0, 0, 0)], 80)]
def z_md_0 : z_Md := (false, [], (fun t => z_B_0.lookup t), 2)
set_option maxRecDepth 100000 in
theorem z_gm_0 {mt : Nat → z_Md} (h : mt 0 = z_md_0) : z_gm z_mi mt 0 := z_okB_ok (o := 0) (vp := 0) (md := (false, [], 2)) (bl := z_B_0) h (fun z => absurd rfl z) (by decide +kernel)
/-- java/lang/Integer.bitCount(I)I -/
def z_B_1 : z_Bk := [(0, [true], [(.iload_n 0, 0, 0, 0, 0), (.iload_n 0, 1, 0, 0, 0), (.iconst 1, 2, 0, 0, 0), (.iushr, 3, 0, 0, 0), (.ldc_w 265, 4, 0, 2, 1431655765), (.iand, 7, 0, 0, 0), (.isub, 8, 0, 0, 0), (.istore_n 0, 9, 0, 0, 0), (.iload_n 0, 10, 0, 0, 0), (.ldc_w 266, 11, 0, 3, 858993459), (.iand, 14, 0, 0, 0), (.iload_n 0, 15, 0, 0, 0), (.iconst 2, 16, 0, 0, 0), (.iushr, 17, 0, 0, 0), (.ldc_w 266, 18, 0, 3, 858993459), (.iand, 21, 0, 0, 0), (.iadd, 22, 0, 0, 0), (.istore_n 0, 23, 0, 0, 0), (.iload_n 0, 24, 0, 0, 0), (.iload_n 0, 25, 0, 0, 0), (.iconst 4, 26, 0, 0, 0), (.iushr, 27, 0, 0, 0), (.iadd, 28, 0, 0, 0), (.ldc_w 267, 29, 0, 4, 252645135), (.iand, 32, 0, 0, 0), (.istore_n 0, 33, 0, 0, 0), (.iload_n 0, 34, 0, 0, 0), (.iload_n 0, 35, 0, 0, 0), (.bipush 8, 36, 0, 0, 0), (.iushr, 38, 0, 0, 0), (.iadd, 39, 0, 0, 0), (.istore_n 0, 40, 0, 0, 0), (.iload_n 0, 41, 0, 0, 0), (.iload_n 0, 42, 0, 0, 0), (.bipush 16, 43, 0, 0, 0), (.iushr, 45, 0, 0, 0), (.iadd, 46, 0, 0, 0), (.istore_n 0, 47, 0, 0, 0), (.iload_n 0, 48, 0, 0, 0), (.bipush 63, 49, 0, 0, 0), (.iand, 51, 0, 0, 0), (.ireturn, 52, 0, 0, 0)], 53)]
def z_md_1 : z_Md := (false, [], (fun t => z_B_1.lookup t), 1)
set_option maxRecDepth 100000 in
theorem z_gm_1 {mt : Nat → z_Md} (h : mt 1 = z_md_1) : z_gm z_mi mt 1 := z_okB_ok (o := 0) (vp := 0) (md := (false, [], 1)) (bl := z_B_1) h (fun z => absurd rfl z) (by decide +kernel)
/-- java/lang/Math.floorMod(II)I -/
def z_B_2 : z_Bk := [(0, [true, true, false], [(.iload_n 0, 0, 0, 0, 0), (.iload_n 1, 1, 0, 0, 0), (.irem, 2, 0, 0, 0), (.istore_n 2, 3, 0, 0, 0), (.iload_n 0, 4, 0, 0, 0), (.iload_n 1, 5, 0, 0, 0), (.ixor, 6, 0, 0, 0), (.ifCond .ge 11, 7, 0, 0, 0), (.iload_n 2, 10, 0, 0, 0), (.ifCond .eq 7, 11, 0, 0, 0), (.iload_n 2, 14, 0, 0, 0), (.iload_n 1, 15, 0, 0, 0), (.iadd, 16, 0, 0, 0), (.ireturn, 17, 0, 0, 0)], 18),
  (18, [false, false, true], [(.iload_n 2, 18, 0, 0, 0), (.ireturn, 19, 0, 0, 0)], 20)]
def z_md_2 : z_Md := (false, [], (fun t => z_B_2.lookup t), 3)
set_option maxRecDepth 100000 in
theorem z_gm_2 {mt : Nat → z_Md} (h : mt 2 = z_md_2) : z_gm z_mi mt 2 := z_okB_ok (o := 1) (vp := 0) (md := (false, [], 3)) (bl := z_B_2) h (fun z => absurd rfl z) (by decide +kernel)
/-- java/lang/Math.abs(I)I -/
def z_B_3 : z_Bk := [(0, [true], [(.iload_n 0, 0, 0, 0, 0), (.ifCond .ge 8, 1, 0, 0, 0), (.iload_n 0, 4, 0, 0, 0), (.ineg, 5, 0, 0, 0), (.goto 4, 6, 0, 0, 0)], 9),
  (9, [true], [(.iload_n 0, 9, 0, 0, 0)], 10),
  (10, [false], [(.ireturn, 10, 0, 0, 0)], 11)]
def z_md_3 : z_Md := (false, [], (fun t => z_B_3.lookup t), 1)
set_option maxRecDepth 100000 in
theorem z_gm_3 {mt : Nat → z_Md} (h : mt 3 = z_md_3) : z_gm z_mi mt 3 := z_okB_ok (o := 1) (vp := 0) (md := (false, [], 1)) (bl := z_B_3) h (fun z => absurd rfl z) (by decide +kernel)
/-- java/lang/Math.max(II)I -/
def z_B_4 : z_Bk := [(0, [true, true], [(.iload_n 0, 0, 0, 0, 0), (.iload_n 1, 1, 0, 0, 0), (.if_icmp .lt 7, 2, 0, 0, 0), (.iload_n 0, 5, 0, 0, 0), (.goto 4, 6, 0, 0, 0)], 9),
  (9, [false, true], [(.iload_n 1, 9, 0, 0, 0)], 10),
  (10, [false, false], [(.ireturn, 10, 0, 0, 0)], 11)]
def z_md_4 : z_Md := (false, [], (fun t => z_B_4.lookup t), 2)
set_option maxRecDepth 100000 in
theorem z_gm_4 {mt : Nat → z_Md} (h : mt 4 = z_md_4) : z_gm z_mi mt 4 := z_okB_ok (o := 1) (vp := 0) (md := (false, [], 2)) (bl := z_B_4) h (fun z => absurd rfl z) (by decide +kernel)
/-- java/lang/Math.min(II)I -/
def z_B_5 : z_Bk := [(0, [true, true], [(.iload_n 0, 0, 0, 0, 0), (.iload_n 1, 1, 0, 0, 0), (.if_icmp .gt 7, 2, 0, 0, 0), (.iload_n 0, 5, 0, 0, 0), (.goto 4, 6, 0, 0, 0)], 9),
  (9, [false, true], [(.iload_n 1, 9, 0, 0, 0)], 10),
  (10, [false, false], [(.ireturn, 10, 0, 0, 0)], 11)]
def z_md_5 : z_Md := (false, [], (fun t => z_B_5.lookup t), 2)
set_option maxRecDepth 100000 in
theorem z_gm_5 {mt : Nat → z_Md} (h : mt 5 = z_md_5) : z_gm z_mi mt 5 := z_okB_ok (o := 1) (vp := 0) (md := (false, [], 2)) (bl := z_B_5) h (fun z => absurd rfl z) (by decide +kernel)
/-- java/lang/Math.min(JJ)J -/
def z_B_6 : z_Bk := [(0, [true, false, true, false], [(.lload_n 0, 0, 0, 0, 0), (.lload_n 2, 1, 0, 0, 0), (.lcmp, 2, 0, 0, 0), (.ifCond .gt 7, 3, 0, 0, 0), (.lload_n 0, 6, 0, 0, 0), (.goto 4, 7, 0, 0, 0)], 10),
  (10, [false, false, true, false], [(.lload_n 2, 10, 0, 0, 0)], 11),
  (11, [false, false, false, false], [(.lreturn, 11, 0, 0, 0)], 12)]
def z_md_6 : z_Md := (false, [], (fun t => z_B_6.lookup t), 4)
set_option maxRecDepth 100000 in
theorem z_gm_6 {mt : Nat → z_Md} (h : mt 6 = z_md_6) : z_gm z_mi mt 6 := z_okB_ok (o := 1) (vp := 0) (md := (false, [], 4)) (bl := z_B_6) h (fun z => absurd rfl z) (by decide +kernel)
/-- LacedHoles$Rows.get([II)I -/
def z_B_7 : z_Bk := [(0, [true, true], [(.iload_n 1, 0, 0, 0, 0), (.ifCond .lt 15, 1, 0, 0, 0), (.iload_n 1, 4, 0, 0, 0), (.aload_n 0, 5, 0, 0, 0), (.arraylength, 6, 0, 0, 0), (.if_icmp .ge 9, 7, 0, 0, 0), (.aload_n 0, 10, 0, 0, 0), (.iload_n 1, 11, 0, 0, 0), (.iaload, 12, 0, 0, 0), (.goto 4, 13, 0, 0, 0)], 16),
  (16, [false, false], [(.iconst 0, 16, 0, 0, 0)], 17),
  (17, [false, false], [(.ireturn, 17, 0, 0, 0)], 18)]
def z_md_7 : z_Md := (false, [], (fun t => z_B_7.lookup t), 2)
set_option maxRecDepth 100000 in
theorem z_gm_7 {mt : Nat → z_Md} (h : mt 7 = z_md_7) : z_gm z_mi mt 7 := z_okB_ok (o := 2) (vp := 0) (md := (false, [], 2)) (bl := z_B_7) h (fun z => absurd rfl z) (by decide +kernel)
/-- LacedHoles$Rows.set([III)V -/
def z_B_8 : z_Bk := [(0, [true, true, true], [(.iload_n 1, 0, 0, 0, 0), (.ifCond .lt 13, 1, 0, 0, 0), (.iload_n 1, 4, 0, 0, 0), (.aload_n 0, 5, 0, 0, 0), (.arraylength, 6, 0, 0, 0), (.if_icmp .ge 7, 7, 0, 0, 0), (.aload_n 0, 10, 0, 0, 0), (.iload_n 1, 11, 0, 0, 0), (.iload_n 2, 12, 0, 0, 0), (.iastore, 13, 0, 0, 0)], 14),
  (14, [false, false, false], [(.return_, 14, 0, 0, 0)], 15)]
def z_md_8 : z_Md := (false, [], (fun t => z_B_8.lookup t), 3)
set_option maxRecDepth 100000 in
theorem z_gm_8 {mt : Nat → z_Md} (h : mt 8 = z_md_8) : z_gm z_mi mt 8 := z_okB_ok (o := 2) (vp := 0) (md := (false, [], 3)) (bl := z_B_8) h (fun z => absurd rfl z) (by decide +kernel)
/-- LacedHoles$Rows.get([JI)J -/
def z_B_9 : z_Bk := [(0, [true, true], [(.iload_n 1, 0, 0, 0, 0), (.ifCond .lt 15, 1, 0, 0, 0), (.iload_n 1, 4, 0, 0, 0), (.aload_n 0, 5, 0, 0, 0), (.arraylength, 6, 0, 0, 0), (.if_icmp .ge 9, 7, 0, 0, 0), (.aload_n 0, 10, 0, 0, 0), (.iload_n 1, 11, 0, 0, 0), (.laload, 12, 0, 0, 0), (.goto 4, 13, 0, 0, 0)], 16),
  (16, [false, false], [(.lconst 0, 16, 0, 0, 0)], 17),
  (17, [false, false], [(.lreturn, 17, 0, 0, 0)], 18)]
def z_md_9 : z_Md := (false, [], (fun t => z_B_9.lookup t), 2)
set_option maxRecDepth 100000 in
theorem z_gm_9 {mt : Nat → z_Md} (h : mt 9 = z_md_9) : z_gm z_mi mt 9 := z_okB_ok (o := 2) (vp := 0) (md := (false, [], 2)) (bl := z_B_9) h (fun z => absurd rfl z) (by decide +kernel)
/-- LacedHoles$Rows.set([JIJ)V -/
def z_B_10 : z_Bk := [(0, [true, true, true, false], [(.iload_n 1, 0, 0, 0, 0), (.ifCond .lt 13, 1, 0, 0, 0), (.iload_n 1, 4, 0, 0, 0), (.aload_n 0, 5, 0, 0, 0), (.arraylength, 6, 0, 0, 0), (.if_icmp .ge 7, 7, 0, 0, 0), (.aload_n 0, 10, 0, 0, 0), (.iload_n 1, 11, 0, 0, 0), (.lload_n 2, 12, 0, 0, 0), (.lastore, 13, 0, 0, 0)], 14),
  (14, [false, false, false, false], [(.return_, 14, 0, 0, 0)], 15)]
def z_md_10 : z_Md := (false, [], (fun t => z_B_10.lookup t), 4)
set_option maxRecDepth 100000 in
theorem z_gm_10 {mt : Nat → z_Md} (h : mt 10 = z_md_10) : z_gm z_mi mt 10 := z_okB_ok (o := 2) (vp := 0) (md := (false, [], 4)) (bl := z_B_10) h (fun z => absurd rfl z) (by decide +kernel)
/-- LacedHoles$Tape.<init>()V -/
def z_B_11 : z_Bk := [(0, [true], [(.aload_n 0, 0, 0, 0, 0), (.invokespecial 3, 1, 999, 0, 1), (.aload_n 0, 4, 0, 0, 0), (.sipush 400, 5, 0, 0, 0), (.newarray .int, 8, 0, 0, 0), (.putfield 11, 10, 6, 0, 0), (.aload_n 0, 13, 0, 0, 0), (.iconst 0, 14, 0, 0, 0), (.putfield 15, 15, 6, 1, 1), (.aload_n 0, 18, 0, 0, 0), (.iconst 0, 19, 0, 0, 0), (.putfield 19, 20, 6, 2, 2), (.aload_n 0, 23, 0, 0, 0), (.iconst 0, 24, 0, 0, 0), (.putfield 22, 25, 6, 3, 3), (.aload_n 0, 28, 0, 0, 0), (.iconst 0, 29, 0, 0, 0), (.putfield 25, 30, 6, 4, 4), (.aload_n 0, 33, 0, 0, 0), (.iconst 0, 34, 0, 0, 0), (.putfield 28, 35, 6, 5, 5), (.aload_n 0, 38, 0, 0, 0), (.iconst (-1), 39, 0, 0, 0), (.putfield 31, 40, 6, 6, 6), (.return_, 43, 0, 0, 0)], 44)]
def z_md_11 : z_Md := (false, [], (fun t => z_B_11.lookup t), 1)
set_option maxRecDepth 100000 in
theorem z_gm_11 {mt : Nat → z_Md} (h : mt 11 = z_md_11) : z_gm z_mi mt 11 := z_okB_ok (o := 3) (vp := 0) (md := (false, [], 1)) (bl := z_B_11) h (fun z => absurd rfl z) (by decide +kernel)
/-- LacedHoles$Tape.hasRoom()Z -/
def z_B_12 : z_Bk := [(0, [true], [(.aload_n 0, 0, 0, 0, 0), (.getfield 15, 1, 6, 1, 1), (.bipush 20, 4, 0, 0, 0), (.iadd, 6, 0, 0, 0), (.sipush 400, 7, 0, 0, 0), (.if_icmp .gt 7, 10, 0, 0, 0), (.iconst 1, 13, 0, 0, 0), (.goto 4, 14, 0, 0, 0)], 17),
  (17, [false], [(.iconst 0, 17, 0, 0, 0)], 18),
  (18, [false], [(.ireturn, 18, 0, 0, 0)], 19)]
def z_md_12 : z_Md := (true, [], (fun t => z_B_12.lookup t), 1)
set_option maxRecDepth 100000 in
theorem z_gm_12 {mt : Nat → z_Md} (h : mt 12 = z_md_12) : z_gm z_mi mt 12 := z_okB_ok (o := 3) (vp := 0) (md := (true, [], 1)) (bl := z_B_12) h (fun z => absurd rfl z) (by decide +kernel)
/-- LacedHoles$Tape.put(I)V -/
def z_B_13 : z_Bk := [(0, [true, true, false], [(.bipush 24, 0, 0, 0, 0), (.istore_n 2, 2, 0, 0, 0)], 3),
  (3, [true, true, true], [(.iload_n 2, 3, 0, 0, 0), (.ifCond .lt 37, 4, 0, 0, 0), (.aload_n 0, 7, 0, 0, 0), (.getfield 11, 8, 6, 0, 0), (.aload_n 0, 11, 0, 0, 0), (.getfield 15, 12, 6, 1, 1), (.iload_n 1, 15, 0, 0, 0), (.iload_n 2, 16, 0, 0, 0), (.iushr, 17, 0, 0, 0), (.sipush 255, 18, 0, 0, 0), (.iand, 21, 0, 0, 0), (.invokestatic 34, 22, 8, 3, 21), (.aload_n 0, 25, 0, 0, 0), (.dup, 26, 0, 0, 0), (.getfield 15, 27, 6, 1, 1), (.iconst 1, 30, 0, 0, 0), (.iadd, 31, 0, 0, 0), (.putfield 15, 32, 6, 1, 1), (.iinc 2 (-8), 35, 0, 0, 0), (.goto (-35), 38, 0, 0, 0)], 41),
  (41, [false, false, false], [(.return_, 41, 0, 0, 0)], 42)]
def z_md_13 : z_Md := (false, [], (fun t => z_B_13.lookup t), 3)
set_option maxRecDepth 100000 in
theorem z_gm_13 {mt : Nat → z_Md} (h : mt 13 = z_md_13) : z_gm z_mi mt 13 := z_okB_ok (o := 3) (vp := 0) (md := (false, [], 3)) (bl := z_B_13) h (fun z => absurd rfl z) (by decide +kernel)
/-- LacedHoles$Tape.size()I -/
def z_B_14 : z_Bk := [(0, [true], [(.aload_n 0, 0, 0, 0, 0), (.getfield 15, 1, 6, 1, 1), (.ireturn, 4, 0, 0, 0)], 5)]
def z_md_14 : z_Md := (false, [], (fun t => z_B_14.lookup t), 1)
set_option maxRecDepth 100000 in
theorem z_gm_14 {mt : Nat → z_Md} (h : mt 14 = z_md_14) : z_gm z_mi mt 14 := z_okB_ok (o := 3) (vp := 0) (md := (false, [], 1)) (bl := z_B_14) h (fun z => absurd rfl z) (by decide +kernel)
/-- LacedHoles$Tape.empty()V -/
def z_B_15 : z_Bk := [(0, [true], [(.aload_n 0, 0, 0, 0, 0), (.iconst 0, 1, 0, 0, 0), (.putfield 15, 2, 6, 1, 1), (.return_, 5, 0, 0, 0)], 6)]
def z_md_15 : z_Md := (false, [], (fun t => z_B_15.lookup t), 1)
set_option maxRecDepth 100000 in
theorem z_gm_15 {mt : Nat → z_Md} (h : mt 15 = z_md_15) : z_gm z_mi mt 15 := z_okB_ok (o := 3) (vp := 0) (md := (false, [], 1)) (bl := z_B_15) h (fun z => absurd rfl z) (by decide +kernel)
/-- LacedHoles$Tape.open(I)V -/
def z_B_16 : z_Bk := [(0, [true, true], [(.aload_n 0, 0, 0, 0, 0), (.iload_n 1, 1, 0, 0, 0), (.putfield 19, 2, 6, 2, 2), (.aload_n 0, 5, 0, 0, 0), (.iconst 0, 6, 0, 0, 0), (.putfield 22, 7, 6, 3, 3), (.aload_n 0, 10, 0, 0, 0), (.iconst 0, 11, 0, 0, 0), (.putfield 25, 12, 6, 4, 4), (.aload_n 0, 15, 0, 0, 0), (.iconst 0, 16, 0, 0, 0), (.putfield 28, 17, 6, 5, 5), (.aload_n 0, 20, 0, 0, 0), (.iconst (-1), 21, 0, 0, 0), (.putfield 31, 22, 6, 6, 6), (.return_, 25, 0, 0, 0)], 26)]
def z_md_16 : z_Md := (false, [], (fun t => z_B_16.lookup t), 2)
set_option maxRecDepth 100000 in
theorem z_gm_16 {mt : Nat → z_Md} (h : mt 16 = z_md_16) : z_gm z_mi mt 16 := z_okB_ok (o := 3) (vp := 0) (md := (false, [], 2)) (bl := z_B_16) h (fun z => absurd rfl z) (by decide +kernel)
/-- LacedHoles$Tape.failed()Z -/
def z_B_17 : z_Bk := [(0, [true], [(.aload_n 0, 0, 0, 0, 0), (.getfield 28, 1, 6, 5, 5), (.ifCond .eq 7, 4, 0, 0, 0), (.iconst 1, 7, 0, 0, 0), (.goto 4, 8, 0, 0, 0)], 11),
  (11, [false], [(.iconst 0, 11, 0, 0, 0)], 12),
  (12, [false], [(.ireturn, 12, 0, 0, 0)], 13)]
def z_md_17 : z_Md := (true, [], (fun t => z_B_17.lookup t), 1)
set_option maxRecDepth 100000 in
theorem z_gm_17 {mt : Nat → z_Md} (h : mt 17 = z_md_17) : z_gm z_mi mt 17 := z_okB_ok (o := 3) (vp := 0) (md := (true, [], 1)) (bl := z_B_17) h (fun z => absurd rfl z) (by decide +kernel)
/-- LacedHoles$Tape.faultKind()I -/
def z_B_18 : z_Bk := [(0, [true], [(.aload_n 0, 0, 0, 0, 0), (.getfield 28, 1, 6, 5, 5), (.ireturn, 4, 0, 0, 0)], 5)]
def z_md_18 : z_Md := (false, [], (fun t => z_B_18.lookup t), 1)
set_option maxRecDepth 100000 in
theorem z_gm_18 {mt : Nat → z_Md} (h : mt 18 = z_md_18) : z_gm z_mi mt 18 := z_okB_ok (o := 3) (vp := 0) (md := (false, [], 1)) (bl := z_B_18) h (fun z => absurd rfl z) (by decide +kernel)
/-- LacedHoles$Tape.faultPlace()I -/
def z_B_19 : z_Bk := [(0, [true], [(.aload_n 0, 0, 0, 0, 0), (.getfield 31, 1, 6, 6, 6), (.ireturn, 4, 0, 0, 0)], 5)]
def z_md_19 : z_Md := (false, [], (fun t => z_B_19.lookup t), 1)
set_option maxRecDepth 100000 in
theorem z_gm_19 {mt : Nat → z_Md} (h : mt 19 = z_md_19) : z_gm z_mi mt 19 := z_okB_ok (o := 3) (vp := 0) (md := (false, [], 1)) (bl := z_B_19) h (fun z => absurd rfl z) (by decide +kernel)
/-- LacedHoles$Tape.fail(II)V -/
def z_B_20 : z_Bk := [(0, [true, true, true], [(.aload_n 0, 0, 0, 0, 0), (.getfield 28, 1, 6, 5, 5), (.ifCond .ne 13, 4, 0, 0, 0), (.aload_n 0, 7, 0, 0, 0), (.iload_n 1, 8, 0, 0, 0), (.putfield 28, 9, 6, 5, 5), (.aload_n 0, 12, 0, 0, 0), (.iload_n 2, 13, 0, 0, 0), (.putfield 31, 14, 6, 6, 6)], 17),
  (17, [false, false, false], [(.return_, 17, 0, 0, 0)], 18)]
def z_md_20 : z_Md := (false, [], (fun t => z_B_20.lookup t), 3)
set_option maxRecDepth 100000 in
theorem z_gm_20 {mt : Nat → z_Md} (h : mt 20 = z_md_20) : z_gm z_mi mt 20 := z_okB_ok (o := 3) (vp := 0) (md := (false, [], 3)) (bl := z_B_20) h (fun z => absurd rfl z) (by decide +kernel)
/-- LacedHoles$Tape.failAtToken(I)V -/
def z_B_21 : z_Bk := [(0, [true, true], [(.aload_n 0, 0, 0, 0, 0), (.iload_n 1, 1, 0, 0, 0), (.aload_n 0, 2, 0, 0, 0), (.getfield 25, 3, 6, 4, 4), (.invokevirtual 40, 6, 20, 2, 2470), (.return_, 9, 0, 0, 0)], 10)]
def z_md_21 : z_Md := (false, [], (fun t => z_B_21.lookup t), 2)
set_option maxRecDepth 100000 in
theorem z_gm_21 {mt : Nat → z_Md} (h : mt 21 = z_md_21) : z_gm z_mi mt 21 := z_okB_ok (o := 3) (vp := 0) (md := (false, [], 2)) (bl := z_B_21) h (fun z => absurd rfl z) (by decide +kernel)
/-- LacedHoles$Tape.failAtEnd(I)V -/
def z_B_22 : z_Bk := [(0, [true, true], [(.aload_n 0, 0, 0, 0, 0), (.iload_n 1, 1, 0, 0, 0), (.aload_n 0, 2, 0, 0, 0), (.getfield 19, 3, 6, 2, 2), (.invokevirtual 40, 6, 20, 2, 2470), (.return_, 9, 0, 0, 0)], 10)]
def z_md_22 : z_Md := (false, [], (fun t => z_B_22.lookup t), 2)
set_option maxRecDepth 100000 in
theorem z_gm_22 {mt : Nat → z_Md} (h : mt 22 = z_md_22) : z_gm z_mi mt 22 := z_okB_ok (o := 3) (vp := 0) (md := (false, [], 2)) (bl := z_B_22) h (fun z => absurd rfl z) (by decide +kernel)
/-- LacedHoles$Tape.ended()Z -/
def z_B_23 : z_Bk := [(0, [true], [(.aload_n 0, 0, 0, 0, 0), (.invokevirtual 44, 1, 25, 0, 2358), (.aload_n 0, 4, 0, 0, 0), (.getfield 22, 5, 6, 3, 3), (.aload_n 0, 8, 0, 0, 0), (.getfield 19, 9, 6, 2, 2), (.if_icmp .lt 7, 12, 0, 0, 0), (.iconst 1, 15, 0, 0, 0), (.goto 4, 16, 0, 0, 0)], 19),
  (19, [false], [(.iconst 0, 19, 0, 0, 0)], 20),
  (20, [false], [(.ireturn, 20, 0, 0, 0)], 21)]
def z_md_23 : z_Md := (true, [], (fun t => z_B_23.lookup t), 1)
set_option maxRecDepth 100000 in
theorem z_gm_23 {mt : Nat → z_Md} (h : mt 23 = z_md_23) : z_gm z_mi mt 23 := z_okB_ok (o := 3) (vp := 0) (md := (true, [], 1)) (bl := z_B_23) h (fun z => absurd rfl z) (by decide +kernel)
/-- LacedHoles$Tape.here()I -/
def z_B_24 : z_Bk := [(0, [true], [(.aload_n 0, 0, 0, 0, 0), (.getfield 22, 1, 6, 3, 3), (.aload_n 0, 4, 0, 0, 0), (.getfield 19, 5, 6, 2, 2), (.if_icmp .ge 17, 8, 0, 0, 0), (.aload_n 0, 11, 0, 0, 0), (.getfield 11, 12, 6, 0, 0), (.aload_n 0, 15, 0, 0, 0), (.getfield 22, 16, 6, 3, 3), (.invokestatic 47, 19, 7, 2, 148), (.goto 4, 22, 0, 0, 0)], 25),
  (25, [false], [(.iconst (-1), 25, 0, 0, 0)], 26),
  (26, [false], [(.ireturn, 26, 0, 0, 0)], 27)]
def z_md_24 : z_Md := (false, [], (fun t => z_B_24.lookup t), 1)
set_option maxRecDepth 100000 in
theorem z_gm_24 {mt : Nat → z_Md} (h : mt 24 = z_md_24) : z_gm z_mi mt 24 := z_okB_ok (o := 3) (vp := 0) (md := (false, [], 1)) (bl := z_B_24) h (fun z => absurd rfl z) (by decide +kernel)
/-- LacedHoles$Tape.skipBlanks()V -/
def z_B_25 : z_Bk := [(0, [true], [(.aload_n 0, 0, 0, 0, 0), (.getfield 22, 1, 6, 3, 3), (.aload_n 0, 4, 0, 0, 0), (.getfield 19, 5, 6, 2, 2), (.if_icmp .ge 32, 8, 0, 0, 0), (.aload_n 0, 11, 0, 0, 0), (.getfield 11, 12, 6, 0, 0), (.aload_n 0, 15, 0, 0, 0), (.getfield 22, 16, 6, 3, 3), (.invokestatic 47, 19, 7, 2, 148), (.bipush 32, 22, 0, 0, 0), (.if_icmp .ne 16, 24, 0, 0, 0), (.aload_n 0, 27, 0, 0, 0), (.dup, 28, 0, 0, 0), (.getfield 22, 29, 6, 3, 3), (.iconst 1, 32, 0, 0, 0), (.iadd, 33, 0, 0, 0), (.putfield 22, 34, 6, 3, 3), (.goto (-37), 37, 0, 0, 0)], 40),
  (40, [true], [(.aload_n 0, 40, 0, 0, 0), (.aload_n 0, 41, 0, 0, 0), (.getfield 22, 42, 6, 3, 3), (.putfield 25, 45, 6, 4, 4), (.return_, 48, 0, 0, 0)], 49)]
def z_md_25 : z_Md := (false, [], (fun t => z_B_25.lookup t), 1)
set_option maxRecDepth 100000 in
theorem z_gm_25 {mt : Nat → z_Md} (h : mt 25 = z_md_25) : z_gm z_mi mt 25 := z_okB_ok (o := 3) (vp := 0) (md := (false, [], 1)) (bl := z_B_25) h (fun z => absurd rfl z) (by decide +kernel)
/-- LacedHoles$Tape.isDigit(I)Z -/
def z_B_26 : z_Bk := [(0, [true], [(.iload_n 0, 0, 0, 0, 0), (.bipush 48, 1, 0, 0, 0), (.if_icmp .lt 13, 3, 0, 0, 0), (.iload_n 0, 6, 0, 0, 0), (.bipush 57, 7, 0, 0, 0), (.if_icmp .gt 7, 9, 0, 0, 0), (.iconst 1, 12, 0, 0, 0), (.goto 4, 13, 0, 0, 0)], 16),
  (16, [false], [(.iconst 0, 16, 0, 0, 0)], 17),
  (17, [false], [(.ireturn, 17, 0, 0, 0)], 18)]
def z_md_26 : z_Md := (true, [], (fun t => z_B_26.lookup t), 1)
set_option maxRecDepth 100000 in
theorem z_gm_26 {mt : Nat → z_Md} (h : mt 26 = z_md_26) : z_gm z_mi mt 26 := z_okB_ok (o := 3) (vp := 0) (md := (true, [], 1)) (bl := z_B_26) h (fun z => absurd rfl z) (by decide +kernel)
/-- LacedHoles$Tape.isLetter(I)Z -/
def z_B_27 : z_Bk := [(0, [true], [(.iload_n 0, 0, 0, 0, 0), (.bipush 97, 1, 0, 0, 0), (.if_icmp .lt 13, 3, 0, 0, 0), (.iload_n 0, 6, 0, 0, 0), (.bipush 122, 7, 0, 0, 0), (.if_icmp .gt 7, 9, 0, 0, 0), (.iconst 1, 12, 0, 0, 0), (.goto 4, 13, 0, 0, 0)], 16),
  (16, [false], [(.iconst 0, 16, 0, 0, 0)], 17),
  (17, [false], [(.ireturn, 17, 0, 0, 0)], 18)]
def z_md_27 : z_Md := (true, [], (fun t => z_B_27.lookup t), 1)
set_option maxRecDepth 100000 in
theorem z_gm_27 {mt : Nat → z_Md} (h : mt 27 = z_md_27) : z_gm z_mi mt 27 := z_okB_ok (o := 3) (vp := 0) (md := (true, [], 1)) (bl := z_B_27) h (fun z => absurd rfl z) (by decide +kernel)
/-- LacedHoles$Tape.readNumber(II)I -/
def z_B_28 : z_Bk := [(0, [true, true, true, false], [(.aload_n 0, 0, 0, 0, 0), (.invokevirtual 44, 1, 25, 0, 2358), (.aload_n 0, 4, 0, 0, 0), (.invokevirtual 51, 5, 24, 0, 2422), (.invokestatic 55, 8, 26, 1, 162), (.ifCond .ne 10, 11, 0, 0, 0), (.aload_n 0, 14, 0, 0, 0), (.iconst 1, 15, 0, 0, 0), (.invokevirtual 59, 16, 21, 1, 2454), (.iload_n 1, 19, 0, 0, 0), (.ireturn, 20, 0, 0, 0)], 21),
  (21, [true, true, true, false], [(.iconst 0, 21, 0, 0, 0), (.istore_n 3, 22, 0, 0, 0)], 23),
  (23, [true, true, true, true], [(.aload_n 0, 23, 0, 0, 0), (.getfield 22, 24, 6, 3, 3), (.aload_n 0, 27, 0, 0, 0), (.getfield 19, 28, 6, 2, 2), (.if_icmp .ge 44, 31, 0, 0, 0), (.aload_n 0, 34, 0, 0, 0), (.invokevirtual 51, 35, 24, 0, 2422), (.invokestatic 55, 38, 26, 1, 162), (.ifCond .eq 34, 41, 0, 0, 0), (.ldc 63, 44, 0, 6, 100000), (.iload_n 3, 46, 0, 0, 0), (.bipush 10, 47, 0, 0, 0), (.imul, 49, 0, 0, 0), (.aload_n 0, 50, 0, 0, 0), (.invokevirtual 51, 51, 24, 0, 2422), (.iadd, 54, 0, 0, 0), (.bipush 48, 55, 0, 0, 0), (.isub, 57, 0, 0, 0), (.invokestatic 64, 58, 5, 2, 163), (.istore_n 3, 61, 0, 0, 0), (.aload_n 0, 62, 0, 0, 0), (.dup, 63, 0, 0, 0), (.getfield 22, 64, 6, 3, 3), (.iconst 1, 67, 0, 0, 0), (.iadd, 68, 0, 0, 0), (.putfield 22, 69, 6, 3, 3), (.goto (-49), 72, 0, 0, 0)], 75),
  (75, [true, true, true, true], [(.iload_n 3, 75, 0, 0, 0), (.iload_n 1, 76, 0, 0, 0), (.if_icmp .lt 8, 77, 0, 0, 0), (.iload_n 3, 80, 0, 0, 0), (.iload_n 2, 81, 0, 0, 0), (.if_icmp .le 10, 82, 0, 0, 0)], 85),
  (85, [true, true, false, false], [(.aload_n 0, 85, 0, 0, 0), (.iconst 2, 86, 0, 0, 0), (.invokevirtual 59, 87, 21, 1, 2454), (.iload_n 1, 90, 0, 0, 0), (.ireturn, 91, 0, 0, 0)], 92),
  (92, [false, false, false, true], [(.iload_n 3, 92, 0, 0, 0), (.ireturn, 93, 0, 0, 0)], 94)]
def z_md_28 : z_Md := (false, [], (fun t => z_B_28.lookup t), 4)
set_option maxRecDepth 100000 in
theorem z_gm_28 {mt : Nat → z_Md} (h : mt 28 = z_md_28) : z_gm z_mi mt 28 := z_okB_ok (o := 3) (vp := 0) (md := (false, [], 4)) (bl := z_B_28) h (fun z => absurd rfl z) (by decide +kernel)
/-- LacedHoles$Tape.readWord()V -/
def z_B_29 : z_Bk := [(0, [true], [(.aload_n 0, 0, 0, 0, 0), (.invokevirtual 44, 1, 25, 0, 2358)], 4),
  (4, [true], [(.aload_n 0, 4, 0, 0, 0), (.getfield 22, 5, 6, 3, 3), (.aload_n 0, 8, 0, 0, 0), (.getfield 19, 9, 6, 2, 2), (.if_icmp .ge 26, 12, 0, 0, 0), (.aload_n 0, 15, 0, 0, 0), (.invokevirtual 51, 16, 24, 0, 2422), (.invokestatic 70, 19, 27, 1, 152), (.ifCond .eq 16, 22, 0, 0, 0), (.aload_n 0, 25, 0, 0, 0), (.dup, 26, 0, 0, 0), (.getfield 22, 27, 6, 3, 3), (.iconst 1, 30, 0, 0, 0), (.iadd, 31, 0, 0, 0), (.putfield 22, 32, 6, 3, 3), (.goto (-31), 35, 0, 0, 0)], 38),
  (38, [true], [(.aload_n 0, 38, 0, 0, 0), (.getfield 22, 39, 6, 3, 3), (.aload_n 0, 42, 0, 0, 0), (.getfield 25, 43, 6, 4, 4), (.if_icmp .ne 8, 46, 0, 0, 0), (.aload_n 0, 49, 0, 0, 0), (.iconst 1, 50, 0, 0, 0), (.invokevirtual 59, 51, 21, 1, 2454)], 54),
  (54, [false], [(.return_, 54, 0, 0, 0)], 55)]
def z_md_29 : z_Md := (false, [], (fun t => z_B_29.lookup t), 1)
set_option maxRecDepth 100000 in
theorem z_gm_29 {mt : Nat → z_Md} (h : mt 29 = z_md_29) : z_gm z_mi mt 29 := z_okB_ok (o := 3) (vp := 0) (md := (false, [], 1)) (bl := z_B_29) h (fun z => absurd rfl z) (by decide +kernel)
/-- LacedHoles$Tape.wordIs(Ljava/lang/String;)Z -/
def z_B_30 : z_Bk := [(0, [true, true, false], [(.aload_n 0, 0, 0, 0, 0), (.getfield 22, 1, 6, 3, 3), (.aload_n 0, 4, 0, 0, 0), (.getfield 25, 5, 6, 4, 4), (.isub, 8, 0, 0, 0), (.aload_n 1, 9, 0, 0, 0), (.invokevirtual 73, 10, 900, 0, 2527), (.if_icmp .eq 5, 13, 0, 0, 0), (.iconst 0, 16, 0, 0, 0), (.ireturn, 17, 0, 0, 0)], 18),
  (18, [true, true, false], [(.iconst 0, 18, 0, 0, 0), (.istore_n 2, 19, 0, 0, 0)], 20),
  (20, [true, true, true], [(.iload_n 2, 20, 0, 0, 0), (.aload_n 1, 21, 0, 0, 0), (.invokevirtual 73, 22, 900, 0, 2527), (.if_icmp .ge 32, 25, 0, 0, 0), (.aload_n 0, 28, 0, 0, 0), (.getfield 11, 29, 6, 0, 0), (.aload_n 0, 32, 0, 0, 0), (.getfield 25, 33, 6, 4, 4), (.iload_n 2, 36, 0, 0, 0), (.iadd, 37, 0, 0, 0), (.invokestatic 47, 38, 7, 2, 148), (.aload_n 1, 41, 0, 0, 0), (.iload_n 2, 42, 0, 0, 0), (.invokevirtual 78, 43, 901, 1, 2543), (.if_icmp .eq 5, 46, 0, 0, 0), (.iconst 0, 49, 0, 0, 0), (.ireturn, 50, 0, 0, 0)], 51),
  (51, [true, true, true], [(.iinc 2 1, 51, 0, 0, 0), (.goto (-34), 54, 0, 0, 0)], 57),
  (57, [false, false, false], [(.iconst 1, 57, 0, 0, 0), (.ireturn, 58, 0, 0, 0)], 59)]
def z_md_30 : z_Md := (true, [], (fun t => z_B_30.lookup t), 3)
set_option maxRecDepth 100000 in
theorem z_gm_30 {mt : Nat → z_Md} (h : mt 30 = z_md_30) : z_gm z_mi mt 30 := z_okB_ok (o := 3) (vp := 0) (md := (true, [], 3)) (bl := z_B_30) h (fun z => absurd rfl z) (by decide +kernel)
/-- LacedHoles$Tape.readSemicolon()V -/
def z_B_31 : z_Bk := [(0, [true], [(.aload_n 0, 0, 0, 0, 0), (.invokevirtual 44, 1, 25, 0, 2358), (.aload_n 0, 4, 0, 0, 0), (.invokevirtual 51, 5, 24, 0, 2422), (.bipush 59, 8, 0, 0, 0), (.if_icmp .ne 16, 10, 0, 0, 0), (.aload_n 0, 13, 0, 0, 0), (.dup, 14, 0, 0, 0), (.getfield 22, 15, 6, 3, 3), (.iconst 1, 18, 0, 0, 0), (.iadd, 19, 0, 0, 0), (.putfield 22, 20, 6, 3, 3), (.goto 8, 23, 0, 0, 0)], 26),
  (26, [true], [(.aload_n 0, 26, 0, 0, 0), (.iconst 1, 27, 0, 0, 0), (.invokevirtual 59, 28, 21, 1, 2454)], 31),
  (31, [false], [(.return_, 31, 0, 0, 0)], 32)]
def z_md_31 : z_Md := (false, [], (fun t => z_B_31.lookup t), 1)
set_option maxRecDepth 100000 in
theorem z_gm_31 {mt : Nat → z_Md} (h : mt 31 = z_md_31) : z_gm z_mi mt 31 := z_okB_ok (o := 3) (vp := 0) (md := (false, [], 1)) (bl := z_B_31) h (fun z => absurd rfl z) (by decide +kernel)
/-- LacedHoles$Boot.<init>()V -/
def z_B_32 : z_Bk := [(0, [true], [(.aload_n 0, 0, 0, 0, 0), (.invokespecial 3, 1, 999, 0, 10), (.aload_n 0, 4, 0, 0, 0), (.bipush 6, 5, 0, 0, 0), (.putfield 9, 7, 0, 0, 54), (.aload_n 0, 10, 0, 0, 0), (.bipush 6, 11, 0, 0, 0), (.putfield 15, 13, 0, 1, 57), (.aload_n 0, 16, 0, 0, 0), (.bipush 30, 17, 0, 0, 0), (.putfield 18, 19, 0, 2, 59), (.aload_n 0, 22, 0, 0, 0), (.bipush 20, 23, 0, 0, 0), (.putfield 21, 25, 0, 3, 61), (.aload_n 0, 28, 0, 0, 0), (.iconst 0, 29, 0, 0, 0), (.putfield 24, 30, 0, 4, 63), (.aload_n 0, 33, 0, 0, 0), (.iconst 0, 34, 0, 0, 0), (.putfield 27, 35, 0, 5, 66), (.aload_n 0, 38, 0, 0, 0), (.sipush 9999, 39, 0, 0, 0), (.putfield 30, 42, 0, 6, 70), (.return_, 45, 0, 0, 0)], 46)]
def z_md_32 : z_Md := (false, [], (fun t => z_B_32.lookup t), 1)
set_option maxRecDepth 100000 in
theorem z_gm_32 {mt : Nat → z_Md} (h : mt 32 = z_md_32) : z_gm z_mi mt 32 := z_okB_ok (o := 4) (vp := 0) (md := (false, [], 1)) (bl := z_B_32) h (fun z => absurd rfl z) (by decide +kernel)
/-- LacedHoles$Boot.clear()V -/
def z_B_33 : z_Bk := [(0, [true], [(.aload_n 0, 0, 0, 0, 0), (.bipush 6, 1, 0, 0, 0), (.putfield 9, 3, 0, 0, 54), (.aload_n 0, 6, 0, 0, 0), (.bipush 6, 7, 0, 0, 0), (.putfield 15, 9, 0, 1, 57), (.aload_n 0, 12, 0, 0, 0), (.bipush 30, 13, 0, 0, 0), (.putfield 18, 15, 0, 2, 59), (.aload_n 0, 18, 0, 0, 0), (.bipush 20, 19, 0, 0, 0), (.putfield 21, 21, 0, 3, 61), (.aload_n 0, 24, 0, 0, 0), (.iconst 0, 25, 0, 0, 0), (.putfield 24, 26, 0, 4, 63), (.aload_n 0, 29, 0, 0, 0), (.iconst 0, 30, 0, 0, 0), (.putfield 27, 31, 0, 5, 66), (.aload_n 0, 34, 0, 0, 0), (.sipush 9999, 35, 0, 0, 0), (.putfield 30, 38, 0, 6, 70), (.return_, 41, 0, 0, 0)], 42)]
def z_md_33 : z_Md := (false, [], (fun t => z_B_33.lookup t), 1)
set_option maxRecDepth 100000 in
theorem z_gm_33 {mt : Nat → z_Md} (h : mt 33 = z_md_33) : z_gm z_mi mt 33 := z_okB_ok (o := 4) (vp := 0) (md := (false, [], 1)) (bl := z_B_33) h (fun z => absurd rfl z) (by decide +kernel)
/-- LacedHoles$Boot.readFrom(LLacedHoles$Tape;)V -/
def z_B_34 : z_Bk := [(0, [true, true, false], [(.aload_n 0, 0, 0, 0, 0), (.invokevirtual 33, 1, 33, 0, 2304), (.iconst 0, 4, 0, 0, 0), (.istore_n 2, 5, 0, 0, 0)], 6),
  (6, [true, true, true], [(.iload_n 2, 6, 0, 0, 0), (.bipush 40, 7, 0, 0, 0), (.if_icmp .gt 30, 9, 0, 0, 0), (.aload_n 1, 12, 0, 0, 0), (.invokevirtual 36, 13, 17, 0, 2326), (.ifCond .ne 10, 16, 0, 0, 0), (.aload_n 1, 19, 0, 0, 0), (.invokevirtual 42, 20, 23, 0, 2342), (.ifCond .eq 4, 23, 0, 0, 0)], 26),
  (26, [false, false, false], [(.return_, 26, 0, 0, 0)], 27),
  (27, [true, true, true], [(.aload_n 0, 27, 0, 0, 0), (.aload_n 1, 28, 0, 0, 0), (.iload_n 2, 29, 0, 0, 0), (.invokevirtual 45, 30, 35, 2, 2384), (.iinc 2 1, 33, 0, 0, 0), (.goto (-30), 36, 0, 0, 0)], 39),
  (39, [false, false, false], [(.return_, 39, 0, 0, 0)], 40)]
def z_md_34 : z_Md := (false, [], (fun t => z_B_34.lookup t), 3)
set_option maxRecDepth 100000 in
theorem z_gm_34 {mt : Nat → z_Md} (h : mt 34 = z_md_34) : z_gm z_mi mt 34 := z_okB_ok (o := 4) (vp := 0) (md := (false, [], 3)) (bl := z_B_34) h (fun z => absurd rfl z) (by decide +kernel)
/-- LacedHoles$Boot.readClause(LLacedHoles$Tape;I)V -/
def z_B_35 : z_Bk := [(0, [true, true, true, false], [(.aload_n 1, 0, 0, 0, 0), (.invokevirtual 49, 1, 29, 0, 2406), (.aload_n 1, 4, 0, 0, 0), (.invokestatic 52, 5, 36, 1, 155), (.istore_n 3, 8, 0, 0, 0), (.iload_n 3, 9, 0, 0, 0), (.iconst (-1), 10, 0, 0, 0), (.if_icmp .ne 11, 11, 0, 0, 0), (.aload_n 1, 14, 0, 0, 0), (.iconst 1, 15, 0, 0, 0), (.invokevirtual 56, 16, 21, 1, 2550), (.goto 43, 19, 0, 0, 0)], 22),
  (22, [true, true, true, true], [(.iload_n 2, 22, 0, 0, 0), (.bipush 40, 23, 0, 0, 0), (.if_icmp .lt 11, 25, 0, 0, 0), (.aload_n 1, 28, 0, 0, 0), (.iconst 3, 29, 0, 0, 0), (.invokevirtual 56, 30, 21, 1, 2550), (.goto 29, 33, 0, 0, 0)], 36),
  (36, [true, true, true, true], [(.iload_n 3, 36, 0, 0, 0), (.ifCond .ne 15, 37, 0, 0, 0), (.iload_n 2, 40, 0, 0, 0), (.ifCond .le 11, 41, 0, 0, 0), (.aload_n 1, 44, 0, 0, 0), (.iconst 4, 45, 0, 0, 0), (.invokevirtual 56, 46, 21, 1, 2550), (.goto 13, 49, 0, 0, 0)], 52),
  (52, [true, true, false, true], [(.aload_n 0, 52, 0, 0, 0), (.aload_n 1, 53, 0, 0, 0), (.iload_n 3, 54, 0, 0, 0), (.invokevirtual 60, 55, 37, 2, 2560), (.aload_n 1, 58, 0, 0, 0), (.invokevirtual 63, 59, 31, 0, 2630)], 62),
  (62, [false, false, false, false], [(.return_, 62, 0, 0, 0)], 63)]
def z_md_35 : z_Md := (false, [], (fun t => z_B_35.lookup t), 4)
set_option maxRecDepth 100000 in
theorem z_gm_35 {mt : Nat → z_Md} (h : mt 35 = z_md_35) : z_gm z_mi mt 35 := z_okB_ok (o := 4) (vp := 0) (md := (false, [], 4)) (bl := z_B_35) h (fun z => absurd rfl z) (by decide +kernel)
/-- LacedHoles$Boot.kindOfWord(LLacedHoles$Tape;)I -/
def z_B_36 : z_Bk := [(0, [true], [(.aload_n 0, 0, 0, 0, 0), (.ldc 66, 1, 1, 0, 0), (.invokevirtual 68, 3, 30, 1, 2502), (.ifCond .eq 5, 6, 0, 0, 0), (.iconst 0, 9, 0, 0, 0), (.ireturn, 10, 0, 0, 0)], 11),
  (11, [true], [(.aload_n 0, 11, 0, 0, 0), (.ldc 72, 12, 1, 1, 0), (.invokevirtual 68, 14, 30, 1, 2502), (.ifCond .eq 5, 17, 0, 0, 0), (.iconst 1, 20, 0, 0, 0), (.ireturn, 21, 0, 0, 0)], 22),
  (22, [true], [(.aload_n 0, 22, 0, 0, 0), (.ldc 74, 23, 1, 2, 0), (.invokevirtual 68, 25, 30, 1, 2502), (.ifCond .eq 5, 28, 0, 0, 0), (.iconst 2, 31, 0, 0, 0), (.ireturn, 32, 0, 0, 0)], 33),
  (33, [true], [(.aload_n 0, 33, 0, 0, 0), (.ldc 75, 34, 1, 3, 0), (.invokevirtual 68, 36, 30, 1, 2502), (.ifCond .eq 5, 39, 0, 0, 0), (.iconst 3, 42, 0, 0, 0), (.ireturn, 43, 0, 0, 0)], 44),
  (44, [true], [(.aload_n 0, 44, 0, 0, 0), (.ldc 76, 45, 1, 4, 0), (.invokevirtual 68, 47, 30, 1, 2502), (.ifCond .eq 7, 50, 0, 0, 0), (.iconst 4, 53, 0, 0, 0), (.goto 4, 54, 0, 0, 0)], 57),
  (57, [false], [(.iconst (-1), 57, 0, 0, 0)], 58),
  (58, [false], [(.ireturn, 58, 0, 0, 0)], 59)]
def z_md_36 : z_Md := (false, [], (fun t => z_B_36.lookup t), 1)
set_option maxRecDepth 100000 in
theorem z_gm_36 {mt : Nat → z_Md} (h : mt 36 = z_md_36) : z_gm z_mi mt 36 := z_okB_ok (o := 4) (vp := 0) (md := (false, [], 1)) (bl := z_B_36) h (fun z => absurd rfl z) (by decide +kernel)
/-- LacedHoles$Boot.readValues(LLacedHoles$Tape;I)V -/
def z_B_37 : z_Bk := [(0, [true, true, true], [(.iload_n 2, 0, 0, 0, 0), (.tableswitch 119 0 3 #[31, 56, 81, 106], 1, 0, 0, 0)], 2),
  (32, [true, true, false], [(.aload_n 0, 32, 0, 0, 0), (.aload_n 1, 33, 0, 0, 0), (.iconst 1, 34, 0, 0, 0), (.bipush 6, 35, 0, 0, 0), (.invokevirtual 77, 37, 28, 2, 2582), (.putfield 9, 40, 0, 0, 54), (.aload_n 0, 43, 0, 0, 0), (.aload_n 1, 44, 0, 0, 0), (.iconst 1, 45, 0, 0, 0), (.bipush 6, 46, 0, 0, 0), (.invokevirtual 77, 48, 28, 2, 2582), (.putfield 15, 51, 0, 1, 57), (.goto 78, 54, 0, 0, 0)], 57),
  (57, [true, true, false], [(.aload_n 0, 57, 0, 0, 0), (.aload_n 1, 58, 0, 0, 0), (.iconst 1, 59, 0, 0, 0), (.bipush 99, 60, 0, 0, 0), (.invokevirtual 77, 62, 28, 2, 2582), (.putfield 18, 65, 0, 2, 59), (.aload_n 0, 68, 0, 0, 0), (.aload_n 1, 69, 0, 0, 0), (.iconst 1, 70, 0, 0, 0), (.bipush 99, 71, 0, 0, 0), (.invokevirtual 77, 73, 28, 2, 2582), (.putfield 21, 76, 0, 3, 61), (.goto 53, 79, 0, 0, 0)], 82),
  (82, [true, true, false], [(.aload_n 0, 82, 0, 0, 0), (.dup, 83, 0, 0, 0), (.getfield 24, 84, 0, 4, 63), (.iconst 1, 87, 0, 0, 0), (.aload_n 1, 88, 0, 0, 0), (.iconst 0, 89, 0, 0, 0), (.aload_n 0, 90, 0, 0, 0), (.invokevirtual 81, 91, 38, 0, 496), (.iconst 1, 94, 0, 0, 0), (.isub, 95, 0, 0, 0), (.invokevirtual 77, 96, 28, 2, 2582), (.ishl, 99, 0, 0, 0), (.ior, 100, 0, 0, 0), (.putfield 24, 101, 0, 4, 63), (.goto 28, 104, 0, 0, 0)], 107),
  (107, [true, true, false], [(.aload_n 0, 107, 0, 0, 0), (.aload_n 1, 108, 0, 0, 0), (.iconst 0, 109, 0, 0, 0), (.iconst 2, 110, 0, 0, 0), (.invokevirtual 77, 111, 28, 2, 2582), (.putfield 27, 114, 0, 5, 66), (.goto 15, 117, 0, 0, 0)], 120),
  (120, [true, true, false], [(.aload_n 0, 120, 0, 0, 0), (.aload_n 1, 121, 0, 0, 0), (.iconst 1, 122, 0, 0, 0), (.sipush 9999, 123, 0, 0, 0), (.invokevirtual 77, 126, 28, 2, 2582), (.putfield 30, 129, 0, 6, 70)], 132),
  (132, [false, false, false], [(.return_, 132, 0, 0, 0)], 133)]
def z_md_37 : z_Md := (false, [], (fun t => z_B_37.lookup t), 3)
set_option maxRecDepth 100000 in
theorem z_gm_37 {mt : Nat → z_Md} (h : mt 37 = z_md_37) : z_gm z_mi mt 37 := z_okB_ok (o := 4) (vp := 0) (md := (false, [], 3)) (bl := z_B_37) h (fun z => absurd rfl z) (by decide +kernel)
/-- LacedHoles$Boot.holes()I -/
def z_B_38 : z_Bk := [(0, [true], [(.aload_n 0, 0, 0, 0, 0), (.getfield 9, 1, 0, 0, 54), (.aload_n 0, 4, 0, 0, 0), (.getfield 15, 5, 0, 1, 57), (.iadd, 8, 0, 0, 0), (.ireturn, 9, 0, 0, 0)], 10)]
def z_md_38 : z_Md := (false, [], (fun t => z_B_38.lookup t), 1)
set_option maxRecDepth 100000 in
theorem z_gm_38 {mt : Nat → z_Md} (h : mt 38 = z_md_38) : z_gm z_mi mt 38 := z_okB_ok (o := 4) (vp := 0) (md := (false, [], 1)) (bl := z_B_38) h (fun z => absurd rfl z) (by decide +kernel)
/-- LacedHoles$Boot.hasHole(I)Z -/
def z_B_39 : z_Bk := [(0, [true, true], [(.iload_n 1, 0, 0, 0, 0), (.ifCond .lt 15, 1, 0, 0, 0), (.iload_n 1, 4, 0, 0, 0), (.aload_n 0, 5, 0, 0, 0), (.invokevirtual 81, 6, 38, 0, 496), (.if_icmp .ge 7, 9, 0, 0, 0), (.iconst 1, 12, 0, 0, 0), (.goto 4, 13, 0, 0, 0)], 16),
  (16, [false, false], [(.iconst 0, 16, 0, 0, 0)], 17),
  (17, [false, false], [(.ireturn, 17, 0, 0, 0)], 18)]
def z_md_39 : z_Md := (true, [], (fun t => z_B_39.lookup t), 2)
set_option maxRecDepth 100000 in
theorem z_gm_39 {mt : Nat → z_Md} (h : mt 39 = z_md_39) : z_gm z_mi mt 39 := z_okB_ok (o := 4) (vp := 0) (md := (true, [], 2)) (bl := z_B_39) h (fun z => absurd rfl z) (by decide +kernel)
/-- LacedHoles$Boot.isTorn(I)Z -/
def z_B_40 : z_Bk := [(0, [true, true], [(.aload_n 0, 0, 0, 0, 0), (.getfield 24, 1, 0, 4, 63), (.iload_n 1, 4, 0, 0, 0), (.ishr, 5, 0, 0, 0), (.iconst 1, 6, 0, 0, 0), (.iand, 7, 0, 0, 0), (.ifCond .eq 7, 8, 0, 0, 0), (.iconst 1, 11, 0, 0, 0), (.goto 4, 12, 0, 0, 0)], 15),
  (15, [false, false], [(.iconst 0, 15, 0, 0, 0)], 16),
  (16, [false, false], [(.ireturn, 16, 0, 0, 0)], 17)]
def z_md_40 : z_Md := (true, [], (fun t => z_B_40.lookup t), 2)
set_option maxRecDepth 100000 in
theorem z_gm_40 {mt : Nat → z_Md} (h : mt 40 = z_md_40) : z_gm z_mi mt 40 := z_okB_ok (o := 4) (vp := 0) (md := (true, [], 2)) (bl := z_B_40) h (fun z => absurd rfl z) (by decide +kernel)
/-- LacedHoles$Boot.whole()I -/
def z_B_41 : z_Bk := [(0, [true], [(.iconst 1, 0, 0, 0, 0), (.aload_n 0, 1, 0, 0, 0), (.invokevirtual 81, 2, 38, 0, 496), (.ishl, 5, 0, 0, 0), (.iconst 1, 6, 0, 0, 0), (.isub, 7, 0, 0, 0), (.aload_n 0, 8, 0, 0, 0), (.getfield 24, 9, 0, 4, 63), (.iconst (-1), 12, 0, 0, 0), (.ixor, 13, 0, 0, 0), (.iand, 14, 0, 0, 0), (.ireturn, 15, 0, 0, 0)], 16)]
def z_md_41 : z_Md := (false, [], (fun t => z_B_41.lookup t), 1)
set_option maxRecDepth 100000 in
theorem z_gm_41 {mt : Nat → z_Md} (h : mt 41 = z_md_41) : z_gm z_mi mt 41 := z_okB_ok (o := 4) (vp := 0) (md := (false, [], 1)) (bl := z_B_41) h (fun z => absurd rfl z) (by decide +kernel)
/-- LacedHoles$Boot.isEven()Z -/
def z_B_42 : z_Bk := [(0, [true], [(.aload_n 0, 0, 0, 0, 0), (.getfield 9, 1, 0, 0, 54), (.aload_n 0, 4, 0, 0, 0), (.getfield 15, 5, 0, 1, 57), (.if_icmp .ne 14, 8, 0, 0, 0), (.aload_n 0, 11, 0, 0, 0), (.getfield 24, 12, 0, 4, 63), (.ifCond .ne 7, 15, 0, 0, 0), (.iconst 1, 18, 0, 0, 0), (.goto 4, 19, 0, 0, 0)], 22),
  (22, [false], [(.iconst 0, 22, 0, 0, 0)], 23),
  (23, [false], [(.ireturn, 23, 0, 0, 0)], 24)]
def z_md_42 : z_Md := (true, [], (fun t => z_B_42.lookup t), 1)
set_option maxRecDepth 100000 in
theorem z_gm_42 {mt : Nat → z_Md} (h : mt 42 = z_md_42) : z_gm z_mi mt 42 := z_okB_ok (o := 4) (vp := 0) (md := (true, [], 1)) (bl := z_B_42) h (fun z => absurd rfl z) (by decide +kernel)
/-- LacedHoles$Boot.row(I)I -/
def z_B_43 : z_Bk := [(0, [true, true], [(.iload_n 1, 0, 0, 0, 0), (.aload_n 0, 1, 0, 0, 0), (.getfield 9, 2, 0, 0, 54), (.if_icmp .ge 7, 5, 0, 0, 0), (.iconst 0, 8, 0, 0, 0), (.goto 4, 9, 0, 0, 0)], 12),
  (12, [false, false], [(.iconst 1, 12, 0, 0, 0)], 13),
  (13, [false, false], [(.ireturn, 13, 0, 0, 0)], 14)]
def z_md_43 : z_Md := (false, [], (fun t => z_B_43.lookup t), 2)
set_option maxRecDepth 100000 in
theorem z_gm_43 {mt : Nat → z_Md} (h : mt 43 = z_md_43) : z_gm z_mi mt 43 := z_okB_ok (o := 4) (vp := 0) (md := (false, [], 2)) (bl := z_B_43) h (fun z => absurd rfl z) (by decide +kernel)
/-- LacedHoles$Boot.inRow(I)I -/
def z_B_44 : z_Bk := [(0, [true, true], [(.iload_n 1, 0, 0, 0, 0), (.aload_n 0, 1, 0, 0, 0), (.getfield 9, 2, 0, 0, 54), (.if_icmp .ge 7, 5, 0, 0, 0), (.iload_n 1, 8, 0, 0, 0), (.goto 9, 9, 0, 0, 0)], 12),
  (12, [true, true], [(.iload_n 1, 12, 0, 0, 0), (.aload_n 0, 13, 0, 0, 0), (.getfield 9, 14, 0, 0, 54), (.isub, 17, 0, 0, 0)], 18),
  (18, [false, false], [(.ireturn, 18, 0, 0, 0)], 19)]
def z_md_44 : z_Md := (false, [], (fun t => z_B_44.lookup t), 2)
set_option maxRecDepth 100000 in
theorem z_gm_44 {mt : Nat → z_Md} (h : mt 44 = z_md_44) : z_gm z_mi mt 44 := z_okB_ok (o := 4) (vp := 0) (md := (false, [], 2)) (bl := z_B_44) h (fun z => absurd rfl z) (by decide +kernel)
/-- LacedHoles$Boot.across(II)I -/
def z_B_45 : z_Bk := [(0, [true, true, true], [(.aload_n 0, 0, 0, 0, 0), (.iload_n 1, 1, 0, 0, 0), (.invokevirtual 85, 2, 43, 1, 624), (.aload_n 0, 5, 0, 0, 0), (.iload_n 2, 6, 0, 0, 0), (.invokevirtual 85, 7, 43, 1, 624), (.if_icmp .ne 7, 10, 0, 0, 0), (.iconst 0, 13, 0, 0, 0), (.goto 4, 14, 0, 0, 0)], 17),
  (17, [false, false, false], [(.iconst 1, 17, 0, 0, 0)], 18),
  (18, [false, false, false], [(.ireturn, 18, 0, 0, 0)], 19)]
def z_md_45 : z_Md := (false, [], (fun t => z_B_45.lookup t), 3)
set_option maxRecDepth 100000 in
theorem z_gm_45 {mt : Nat → z_Md} (h : mt 45 = z_md_45) : z_gm z_mi mt 45 := z_okB_ok (o := 4) (vp := 0) (md := (false, [], 3)) (bl := z_B_45) h (fun z => absurd rfl z) (by decide +kernel)
/-- LacedHoles$Boot.allows(II)Z -/
def z_B_46 : z_Bk := [(0, [true, true, true], [(.aload_n 0, 0, 0, 0, 0), (.getfield 27, 1, 0, 5, 66), (.ifCond .ne 5, 4, 0, 0, 0), (.iconst 1, 7, 0, 0, 0), (.ireturn, 8, 0, 0, 0)], 9),
  (9, [true, true, true], [(.aload_n 0, 9, 0, 0, 0), (.getfield 27, 10, 0, 5, 66), (.iconst 1, 13, 0, 0, 0), (.if_icmp .ne 18, 14, 0, 0, 0), (.iload_n 1, 17, 0, 0, 0), (.iload_n 2, 18, 0, 0, 0), (.iadd, 19, 0, 0, 0), (.iconst 1, 20, 0, 0, 0), (.if_icmp .lt 7, 21, 0, 0, 0), (.iconst 1, 24, 0, 0, 0), (.goto 19, 25, 0, 0, 0)], 28),
  (28, [false, false, false], [(.iconst 0, 28, 0, 0, 0), (.goto 15, 29, 0, 0, 0)], 32),
  (32, [false, true, true], [(.iload_n 1, 32, 0, 0, 0), (.iload_n 2, 33, 0, 0, 0), (.iadd, 34, 0, 0, 0), (.iconst 1, 35, 0, 0, 0), (.if_icmp .ne 7, 36, 0, 0, 0), (.iconst 1, 39, 0, 0, 0), (.goto 4, 40, 0, 0, 0)], 43),
  (43, [false, false, false], [(.iconst 0, 43, 0, 0, 0)], 44),
  (44, [false, false, false], [(.ireturn, 44, 0, 0, 0)], 45)]
def z_md_46 : z_Md := (true, [], (fun t => z_B_46.lookup t), 3)
set_option maxRecDepth 100000 in
theorem z_gm_46 {mt : Nat → z_Md} (h : mt 46 = z_md_46) : z_gm z_mi mt 46 := z_okB_ok (o := 4) (vp := 0) (md := (true, [], 3)) (bl := z_B_46) h (fun z => absurd rfl z) (by decide +kernel)
/-- LacedHoles$Boot.imageOf(IZZ)I -/
def z_B_47 : z_Bk := [(0, [true, true, true, true, false, false, false], [(.iload_n 1, 0, 0, 0, 0), (.aload_n 0, 1, 0, 0, 0), (.getfield 9, 2, 0, 0, 54), (.if_icmp .ge 7, 5, 0, 0, 0), (.iconst 0, 8, 0, 0, 0), (.goto 4, 9, 0, 0, 0)], 12),
  (12, [true, true, true, true, false, false, false], [(.iconst 1, 12, 0, 0, 0)], 13),
  (13, [true, true, true, true, false, false, false], [(.istore 4, 13, 0, 0, 0), (.iload_n 1, 15, 0, 0, 0), (.iload 4, 16, 0, 0, 0), (.aload_n 0, 18, 0, 0, 0), (.getfield 9, 19, 0, 0, 54), (.imul, 22, 0, 0, 0), (.isub, 23, 0, 0, 0), (.istore 5, 24, 0, 0, 0), (.iload_n 3, 26, 0, 0, 0), (.ifCond .eq 10, 27, 0, 0, 0), (.iconst 1, 30, 0, 0, 0), (.iload 4, 31, 0, 0, 0), (.isub, 33, 0, 0, 0), (.goto 5, 34, 0, 0, 0)], 37),
  (37, [true, false, true, false, true, true, false], [(.iload 4, 37, 0, 0, 0)], 39),
  (39, [true, false, true, false, false, true, false], [(.istore 6, 39, 0, 0, 0), (.iload 6, 41, 0, 0, 0), (.aload_n 0, 43, 0, 0, 0), (.getfield 9, 44, 0, 0, 54), (.imul, 47, 0, 0, 0), (.iload_n 2, 48, 0, 0, 0), (.ifCond .eq 15, 49, 0, 0, 0), (.aload_n 0, 52, 0, 0, 0), (.getfield 9, 53, 0, 0, 54), (.iconst 1, 56, 0, 0, 0), (.isub, 57, 0, 0, 0), (.iload 5, 58, 0, 0, 0), (.isub, 60, 0, 0, 0), (.goto 5, 61, 0, 0, 0)], 64),
  (64, [false, false, false, false, false, true, false], [(.iload 5, 64, 0, 0, 0)], 66),
  (66, [false, false, false, false, false, false, false], [(.iadd, 66, 0, 0, 0), (.ireturn, 67, 0, 0, 0)], 68)]
def z_md_47 : z_Md := (false, [], (fun t => z_B_47.lookup t), 7)
set_option maxRecDepth 100000 in
theorem z_gm_47 {mt : Nat → z_Md} (h : mt 47 = z_md_47) : z_gm z_mi mt 47 := z_okB_ok (o := 4) (vp := 0) (md := (false, [], 7)) (bl := z_B_47) h (fun z => absurd rfl z) (by decide +kernel)
/-- LacedHoles$Roots.<init>()V -/
def z_B_48 : z_Bk := [(0, [true], [(.aload_n 0, 0, 0, 0, 0), (.invokespecial 3, 1, 999, 0, 2), (.aload_n 0, 4, 0, 0, 0), (.bipush 6, 5, 0, 0, 0), (.newarray .long, 7, 0, 0, 0), (.putfield 9, 9, 4, 0, 7), (.aload_n 0, 12, 0, 0, 0), (.bipush 6, 13, 0, 0, 0), (.newarray .long, 15, 0, 0, 0), (.putfield 15, 17, 4, 1, 8), (.aload_n 0, 20, 0, 0, 0), (.iconst 0, 21, 0, 0, 0), (.putfield 18, 22, 4, 2, 9), (.return_, 25, 0, 0, 0)], 26)]
def z_md_48 : z_Md := (false, [], (fun t => z_B_48.lookup t), 1)
set_option maxRecDepth 100000 in
theorem z_gm_48 {mt : Nat → z_Md} (h : mt 48 = z_md_48) : z_gm z_mi mt 48 := z_okB_ok (o := 5) (vp := 0) (md := (false, [], 1)) (bl := z_B_48) h (fun z => absurd rfl z) (by decide +kernel)
/-- LacedHoles$Roots.measureFor(II)V -/
def z_B_49 : z_Bk := [(0, [true, true, true, false, false, false], [(.aload_n 0, 0, 0, 0, 0), (.iload_n 2, 1, 0, 0, 0), (.putfield 18, 2, 4, 2, 9), (.iconst 0, 5, 0, 0, 0), (.istore_n 3, 6, 0, 0, 0)], 7),
  (7, [true, true, false, true, false, false], [(.iload_n 3, 7, 0, 0, 0), (.bipush 6, 8, 0, 0, 0), (.if_icmp .ge 37, 10, 0, 0, 0), (.iload_n 3, 13, 0, 0, 0), (.i2l, 14, 0, 0, 0), (.aload_n 0, 15, 0, 0, 0), (.getfield 18, 16, 4, 2, 9), (.i2l, 19, 0, 0, 0), (.lmul, 20, 0, 0, 0), (.lstore 4, 21, 0, 0, 0), (.aload_n 0, 23, 0, 0, 0), (.iload_n 3, 24, 0, 0, 0), (.iload_n 1, 25, 0, 0, 0), (.i2l, 26, 0, 0, 0), (.iload_n 1, 27, 0, 0, 0), (.i2l, 28, 0, 0, 0), (.iload_n 1, 29, 0, 0, 0), (.i2l, 30, 0, 0, 0), (.lmul, 31, 0, 0, 0), (.lload 4, 32, 0, 0, 0), (.lload 4, 34, 0, 0, 0), (.lmul, 36, 0, 0, 0), (.ladd, 37, 0, 0, 0), (.invokevirtual 22, 38, 50, 3, 244), (.iinc 3 1, 41, 0, 0, 0), (.goto (-37), 44, 0, 0, 0)], 47),
  (47, [false, false, false, false, false, false], [(.return_, 47, 0, 0, 0)], 48)]
def z_md_49 : z_Md := (false, [], (fun t => z_B_49.lookup t), 6)
set_option maxRecDepth 100000 in
theorem z_gm_49 {mt : Nat → z_Md} (h : mt 49 = z_md_49) : z_gm z_mi mt 49 := z_okB_ok (o := 5) (vp := 0) (md := (false, [], 6)) (bl := z_B_49) h (fun z => absurd rfl z) (by decide +kernel)
/-- LacedHoles$Roots.measureAcross(IJJ)V -/
def z_B_50 : z_Bk := [(0, [true, true, true, false, true, false, false, false, false, false, false, false, false], [(.lconst 0, 0, 0, 0, 0), (.lstore 6, 1, 0, 0, 0), (.lconst 0, 3, 0, 0, 0), (.lstore 8, 4, 0, 0, 0), (.bipush 8, 6, 0, 0, 0), (.istore 10, 8, 0, 0, 0)], 10),
  (10, [true, true, true, false, true, false, true, false, true, false, true, false, false], [(.iload 10, 10, 0, 0, 0), (.bipush (-48), 12, 0, 0, 0), (.if_icmp .lt 77, 14, 0, 0, 0), (.lload 6, 17, 0, 0, 0), (.ldc2_w 26, 19, 0, 0, 4), (.lmul, 22, 0, 0, 0), (.lconst 1, 23, 0, 0, 0), (.ladd, 24, 0, 0, 0), (.lstore 11, 25, 0, 0, 0), (.lload 8, 27, 0, 0, 0), (.ldc2_w 26, 29, 0, 0, 4), (.lmul, 32, 0, 0, 0), (.iload 10, 33, 0, 0, 0), (.ifCond .lt 17, 35, 0, 0, 0), (.lload 4, 38, 0, 0, 0), (.iconst 2, 40, 0, 0, 0), (.iload 10, 41, 0, 0, 0), (.imul, 43, 0, 0, 0), (.lshr, 44, 0, 0, 0), (.ldc2_w 28, 45, 0, 1, 3), (.land, 48, 0, 0, 0), (.goto 4, 49, 0, 0, 0)], 52),
  (52, [true, true, true, false, true, false, true, false, false, false, true, true, false], [(.lconst 0, 52, 0, 0, 0)], 53),
  (53, [true, true, true, false, true, false, true, false, false, false, true, true, false], [(.ladd, 53, 0, 0, 0), (.lstore 8, 54, 0, 0, 0), (.lload 6, 56, 0, 0, 0), (.ldc2_w 30, 58, 0, 2, 2), (.lmul, 61, 0, 0, 0), (.lstore 6, 62, 0, 0, 0), (.lload 8, 64, 0, 0, 0), (.lload 11, 66, 0, 0, 0), (.lcmp, 68, 0, 0, 0), (.ifCond .lt 16, 69, 0, 0, 0), (.lload 8, 72, 0, 0, 0), (.lload 11, 74, 0, 0, 0), (.lsub, 76, 0, 0, 0), (.lstore 8, 77, 0, 0, 0), (.lload 6, 79, 0, 0, 0), (.lconst 1, 81, 0, 0, 0), (.ladd, 82, 0, 0, 0), (.lstore 6, 83, 0, 0, 0)], 85),
  (85, [true, true, true, false, true, false, true, false, true, false, true, false, false], [(.iinc 10 (-1), 85, 0, 0, 0), (.goto (-78), 88, 0, 0, 0)], 91),
  (91, [true, true, true, false, true, false, true, false, true, false, false, false, false], [(.aload_n 0, 91, 0, 0, 0), (.getfield 9, 92, 4, 0, 7), (.iload_n 1, 95, 0, 0, 0), (.lload 6, 96, 0, 0, 0), (.invokestatic 32, 98, 10, 3, 16), (.aload_n 0, 101, 0, 0, 0), (.getfield 15, 102, 4, 1, 8), (.iload_n 1, 105, 0, 0, 0), (.lload 6, 106, 0, 0, 0), (.lload 8, 108, 0, 0, 0), (.lload_n 2, 110, 0, 0, 0), (.lload 4, 111, 0, 0, 0), (.invokestatic 38, 113, 51, 4, 17), (.invokestatic 32, 116, 10, 3, 16), (.return_, 119, 0, 0, 0)], 120)]
def z_md_50 : z_Md := (false, [], (fun t => z_B_50.lookup t), 13)
set_option maxRecDepth 100000 in
theorem z_gm_50 {mt : Nat → z_Md} (h : mt 50 = z_md_50) : z_gm z_mi mt 50 := z_okB_ok (o := 5) (vp := 0) (md := (false, [], 13)) (bl := z_B_50) h (fun z => absurd rfl z) (by decide +kernel)
/-- LacedHoles$Roots.pullByRoot(JJJJ)J -/
def z_B_51 : z_Bk := [(0, [true, false, true, false, true, false, true, false, false, false, false, false, false, false, false], [(.lload 6, 0, 0, 0, 0), (.lconst 1, 2, 0, 0, 0), (.lcmp, 3, 0, 0, 0), (.ifCond .ge 5, 4, 0, 0, 0), (.lconst 0, 7, 0, 0, 0), (.lreturn, 8, 0, 0, 0)], 9),
  (9, [true, false, true, false, true, false, true, false, false, false, false, false, false, false, false], [(.lconst 0, 9, 0, 0, 0), (.lstore 8, 10, 0, 0, 0), (.lload_n 2, 12, 0, 0, 0), (.lstore 10, 13, 0, 0, 0), (.iconst 0, 15, 0, 0, 0), (.istore 12, 16, 0, 0, 0)], 18),
  (18, [true, false, false, false, true, false, true, false, true, false, true, false, true, false, false], [(.iload 12, 18, 0, 0, 0), (.bipush 16, 20, 0, 0, 0), (.if_icmp .ge 52, 22, 0, 0, 0), (.lload 10, 25, 0, 0, 0), (.ldc2_w 30, 27, 0, 2, 2), (.lmul, 30, 0, 0, 0), (.lstore 10, 31, 0, 0, 0), (.lload 8, 33, 0, 0, 0), (.ldc2_w 30, 35, 0, 2, 2), (.lmul, 38, 0, 0, 0), (.lstore 8, 39, 0, 0, 0), (.lload 10, 41, 0, 0, 0), (.ldc2_w 30, 43, 0, 2, 2), (.lload_n 0, 46, 0, 0, 0), (.lmul, 47, 0, 0, 0), (.lcmp, 48, 0, 0, 0), (.ifCond .lt 19, 49, 0, 0, 0), (.lload 10, 52, 0, 0, 0), (.ldc2_w 30, 54, 0, 2, 2), (.lload_n 0, 57, 0, 0, 0), (.lmul, 58, 0, 0, 0), (.lsub, 59, 0, 0, 0), (.lstore 10, 60, 0, 0, 0), (.lload 8, 62, 0, 0, 0), (.lconst 1, 64, 0, 0, 0), (.ladd, 65, 0, 0, 0), (.lstore 8, 66, 0, 0, 0)], 68),
  (68, [true, false, false, false, true, false, true, false, true, false, true, false, true, false, false], [(.iinc 12 1, 68, 0, 0, 0), (.goto (-53), 71, 0, 0, 0)], 74),
  (74, [true, false, false, false, true, false, true, false, true, false, false, false, false, false, false], [(.bipush 10, 74, 0, 0, 0), (.istore 12, 76, 0, 0, 0), (.lload 4, 78, 0, 0, 0), (.lload_n 0, 80, 0, 0, 0), (.lload 6, 81, 0, 0, 0), (.lrem, 83, 0, 0, 0), (.lmul, 84, 0, 0, 0), (.iload 12, 85, 0, 0, 0), (.lshl, 87, 0, 0, 0), (.lload 4, 88, 0, 0, 0), (.lload 8, 90, 0, 0, 0), (.lmul, 92, 0, 0, 0), (.bipush 16, 93, 0, 0, 0), (.iload 12, 95, 0, 0, 0), (.isub, 97, 0, 0, 0), (.lshr, 98, 0, 0, 0), (.ladd, 99, 0, 0, 0), (.lstore 13, 100, 0, 0, 0), (.lload 4, 102, 0, 0, 0), (.lload_n 0, 104, 0, 0, 0), (.lload 6, 105, 0, 0, 0), (.ldiv, 107, 0, 0, 0), (.lmul, 108, 0, 0, 0), (.iload 12, 109, 0, 0, 0), (.lshl, 111, 0, 0, 0), (.lload 13, 112, 0, 0, 0), (.lload 6, 114, 0, 0, 0), (.ldiv, 116, 0, 0, 0), (.ladd, 117, 0, 0, 0), (.lreturn, 118, 0, 0, 0)], 119)]
def z_md_51 : z_Md := (false, [], (fun t => z_B_51.lookup t), 15)
set_option maxRecDepth 100000 in
theorem z_gm_51 {mt : Nat → z_Md} (h : mt 51 = z_md_51) : z_gm z_mi mt 51 := z_okB_ok (o := 5) (vp := 0) (md := (false, [], 15)) (bl := z_B_51) h (fun z => absurd rfl z) (by decide +kernel)
/-- LacedHoles$Roots.lengthOf(LLacedHoles$Boot;II)J -/
def z_B_52 : z_Bk := [(0, [true, true, true, true, false], [(.aload_n 1, 0, 0, 0, 0), (.iload_n 2, 1, 0, 0, 0), (.invokevirtual 42, 2, 44, 1, 576), (.aload_n 1, 5, 0, 0, 0), (.iload_n 3, 6, 0, 0, 0), (.invokevirtual 42, 7, 44, 1, 576), (.isub, 10, 0, 0, 0), (.invokestatic 48, 11, 3, 1, 37), (.istore 4, 14, 0, 0, 0), (.aload_n 1, 16, 0, 0, 0), (.iload_n 2, 17, 0, 0, 0), (.iload_n 3, 18, 0, 0, 0), (.invokevirtual 53, 19, 45, 2, 608), (.ifCond .ne 16, 22, 0, 0, 0), (.iload 4, 25, 0, 0, 0), (.i2l, 27, 0, 0, 0), (.aload_n 0, 28, 0, 0, 0), (.getfield 18, 29, 4, 2, 9), (.i2l, 32, 0, 0, 0), (.lmul, 33, 0, 0, 0), (.bipush 48, 34, 0, 0, 0), (.lshl, 36, 0, 0, 0), (.lreturn, 37, 0, 0, 0)], 38),
  (38, [true, false, false, false, true], [(.aload_n 0, 38, 0, 0, 0), (.getfield 9, 39, 4, 0, 7), (.iload 4, 42, 0, 0, 0), (.invokestatic 57, 44, 9, 2, 40), (.lreturn, 47, 0, 0, 0)], 48)]
def z_md_52 : z_Md := (false, [], (fun t => z_B_52.lookup t), 5)
set_option maxRecDepth 100000 in
theorem z_gm_52 {mt : Nat → z_Md} (h : mt 52 = z_md_52) : z_gm z_mi mt 52 := z_okB_ok (o := 5) (vp := 0) (md := (false, [], 5)) (bl := z_B_52) h (fun z => absurd rfl z) (by decide +kernel)
/-- LacedHoles$Roots.pullOf(LLacedHoles$Boot;II)J -/
def z_B_53 : z_Bk := [(0, [true, true, true, true, false], [(.aload_n 1, 0, 0, 0, 0), (.iload_n 2, 1, 0, 0, 0), (.invokevirtual 42, 2, 44, 1, 576), (.aload_n 1, 5, 0, 0, 0), (.iload_n 3, 6, 0, 0, 0), (.invokevirtual 42, 7, 44, 1, 576), (.isub, 10, 0, 0, 0), (.invokestatic 48, 11, 3, 1, 37), (.istore 4, 14, 0, 0, 0), (.aload_n 1, 16, 0, 0, 0), (.iload_n 2, 17, 0, 0, 0), (.iload_n 3, 18, 0, 0, 0), (.invokevirtual 53, 19, 45, 2, 608), (.ifCond .ne 7, 22, 0, 0, 0), (.lconst 0, 25, 0, 0, 0), (.goto 12, 26, 0, 0, 0)], 29),
  (29, [true, false, false, false, true], [(.aload_n 0, 29, 0, 0, 0), (.getfield 15, 30, 4, 1, 8), (.iload 4, 33, 0, 0, 0), (.invokestatic 57, 35, 9, 2, 40)], 38),
  (38, [false, false, false, false, false], [(.lreturn, 38, 0, 0, 0)], 39)]
def z_md_53 : z_Md := (false, [], (fun t => z_B_53.lookup t), 5)
set_option maxRecDepth 100000 in
theorem z_gm_53 {mt : Nat → z_Md} (h : mt 53 = z_md_53) : z_gm z_mi mt 53 := z_okB_ok (o := 5) (vp := 0) (md := (false, [], 5)) (bl := z_B_53) h (fun z => absurd rfl z) (by decide +kernel)
/-- LacedHoles$Roots.lengthAlong(LLacedHoles$Boot;LLacedHoles$Way;)J -/
def z_B_54 : z_Bk := [(0, [true, true, true, false, false, false], [(.lconst 0, 0, 0, 0, 0), (.lstore_n 3, 1, 0, 0, 0), (.iconst 0, 2, 0, 0, 0), (.istore 5, 3, 0, 0, 0)], 5),
  (5, [true, true, true, true, false, true], [(.iload 5, 5, 0, 0, 0), (.aload_n 2, 7, 0, 0, 0), (.getfield 61, 8, 8, 1, 28), (.if_icmp .ge 31, 11, 0, 0, 0), (.lload_n 3, 14, 0, 0, 0), (.aload_n 0, 15, 0, 0, 0), (.aload_n 1, 16, 0, 0, 0), (.aload_n 2, 17, 0, 0, 0), (.iload 5, 18, 0, 0, 0), (.invokevirtual 66, 20, 65, 1, 3224), (.aload_n 2, 23, 0, 0, 0), (.iload 5, 24, 0, 0, 0), (.iconst 1, 26, 0, 0, 0), (.iadd, 27, 0, 0, 0), (.invokevirtual 66, 28, 65, 1, 3224), (.invokevirtual 69, 31, 52, 3, 3236), (.ladd, 34, 0, 0, 0), (.lstore_n 3, 35, 0, 0, 0), (.iinc 5 1, 36, 0, 0, 0), (.goto (-34), 39, 0, 0, 0)], 42),
  (42, [false, false, false, true, false, false], [(.lload_n 3, 42, 0, 0, 0), (.lreturn, 43, 0, 0, 0)], 44)]
def z_md_54 : z_Md := (false, [], (fun t => z_B_54.lookup t), 6)
set_option maxRecDepth 100000 in
theorem z_gm_54 {mt : Nat → z_Md} (h : mt 54 = z_md_54) : z_gm z_mi mt 54 := z_okB_ok (o := 5) (vp := 0) (md := (false, [], 6)) (bl := z_B_54) h (fun z => absurd rfl z) (by decide +kernel)
/-- LacedHoles$Roots.pullAlong(LLacedHoles$Boot;LLacedHoles$Way;)J -/
def z_B_55 : z_Bk := [(0, [true, true, true, false, false, false], [(.lconst 0, 0, 0, 0, 0), (.lstore_n 3, 1, 0, 0, 0), (.iconst 0, 2, 0, 0, 0), (.istore 5, 3, 0, 0, 0)], 5),
  (5, [true, true, true, true, false, true], [(.iload 5, 5, 0, 0, 0), (.aload_n 2, 7, 0, 0, 0), (.getfield 61, 8, 8, 1, 28), (.if_icmp .ge 31, 11, 0, 0, 0), (.lload_n 3, 14, 0, 0, 0), (.aload_n 0, 15, 0, 0, 0), (.aload_n 1, 16, 0, 0, 0), (.aload_n 2, 17, 0, 0, 0), (.iload 5, 18, 0, 0, 0), (.invokevirtual 66, 20, 65, 1, 3224), (.aload_n 2, 23, 0, 0, 0), (.iload 5, 24, 0, 0, 0), (.iconst 1, 26, 0, 0, 0), (.iadd, 27, 0, 0, 0), (.invokevirtual 66, 28, 65, 1, 3224), (.invokevirtual 73, 31, 53, 3, 3268), (.ladd, 34, 0, 0, 0), (.lstore_n 3, 35, 0, 0, 0), (.iinc 5 1, 36, 0, 0, 0), (.goto (-34), 39, 0, 0, 0)], 42),
  (42, [false, false, false, true, false, false], [(.lload_n 3, 42, 0, 0, 0), (.lreturn, 43, 0, 0, 0)], 44)]
def z_md_55 : z_Md := (false, [], (fun t => z_B_55.lookup t), 6)
set_option maxRecDepth 100000 in
theorem z_gm_55 {mt : Nat → z_Md} (h : mt 55 = z_md_55) : z_gm z_mi mt 55 := z_okB_ok (o := 5) (vp := 0) (md := (false, [], 6)) (bl := z_B_55) h (fun z => absurd rfl z) (by decide +kernel)
/-- LacedHoles$Roots.isLess(JJ)Z -/
def z_B_56 : z_Bk := [(0, [true, false, true, false], [(.lload_n 0, 0, 0, 0, 0), (.ldc2_w 76, 1, 0, 5, 64), (.ladd, 4, 0, 0, 0), (.lload_n 2, 5, 0, 0, 0), (.lcmp, 6, 0, 0, 0), (.ifCond .ge 7, 7, 0, 0, 0), (.iconst 1, 10, 0, 0, 0), (.goto 4, 11, 0, 0, 0)], 14),
  (14, [false, false, false, false], [(.iconst 0, 14, 0, 0, 0)], 15),
  (15, [false, false, false, false], [(.ireturn, 15, 0, 0, 0)], 16)]
def z_md_56 : z_Md := (true, [], (fun t => z_B_56.lookup t), 4)
set_option maxRecDepth 100000 in
theorem z_gm_56 {mt : Nat → z_Md} (h : mt 56 = z_md_56) : z_gm z_mi mt 56 := z_okB_ok (o := 5) (vp := 0) (md := (true, [], 4)) (bl := z_B_56) h (fun z => absurd rfl z) (by decide +kernel)
/-- LacedHoles$Roots.isWithin(JI)Z -/
def z_B_57 : z_Bk := [(0, [true, false, true], [(.iload_n 2, 0, 0, 0, 0), (.i2l, 1, 0, 0, 0), (.bipush 48, 2, 0, 0, 0), (.lshl, 4, 0, 0, 0), (.lload_n 0, 5, 0, 0, 0), (.invokestatic 78, 6, 56, 2, 64), (.ifCond .ne 7, 9, 0, 0, 0), (.iconst 1, 12, 0, 0, 0), (.goto 4, 13, 0, 0, 0)], 16),
  (16, [false, false, false], [(.iconst 0, 16, 0, 0, 0)], 17),
  (17, [false, false, false], [(.ireturn, 17, 0, 0, 0)], 18)]
def z_md_57 : z_Md := (true, [], (fun t => z_B_57.lookup t), 3)
set_option maxRecDepth 100000 in
theorem z_gm_57 {mt : Nat → z_Md} (h : mt 57 = z_md_57) : z_gm z_mi mt 57 := z_okB_ok (o := 5) (vp := 0) (md := (true, [], 3)) (bl := z_B_57) h (fun z => absurd rfl z) (by decide +kernel)
/-- LacedHoles$Roots.thousandths(J)I -/
def z_B_58 : z_Bk := [(0, [true, false, false, false, false, false], [(.lload_n 0, 0, 0, 0, 0), (.ldc2_w 76, 1, 0, 5, 64), (.ladd, 4, 0, 0, 0), (.lstore_n 2, 5, 0, 0, 0), (.lload_n 2, 6, 0, 0, 0), (.ldc2_w 82, 7, 0, 6, 281474976710655), (.land, 10, 0, 0, 0), (.lstore 4, 11, 0, 0, 0), (.lload_n 2, 13, 0, 0, 0), (.bipush 48, 14, 0, 0, 0), (.lshr, 16, 0, 0, 0), (.ldc2_w 84, 17, 0, 7, 1000), (.lmul, 20, 0, 0, 0), (.lload 4, 21, 0, 0, 0), (.ldc2_w 84, 23, 0, 7, 1000), (.lmul, 26, 0, 0, 0), (.bipush 48, 27, 0, 0, 0), (.lshr, 29, 0, 0, 0), (.ladd, 30, 0, 0, 0), (.l2i, 31, 0, 0, 0), (.ireturn, 32, 0, 0, 0)], 33)]
def z_md_58 : z_Md := (false, [], (fun t => z_B_58.lookup t), 6)
set_option maxRecDepth 100000 in
theorem z_gm_58 {mt : Nat → z_Md} (h : mt 58 = z_md_58) : z_gm z_mi mt 58 := z_okB_ok (o := 5) (vp := 0) (md := (false, [], 6)) (bl := z_B_58) h (fun z => absurd rfl z) (by decide +kernel)
/-- LacedHoles$Roots.millionths(J)I -/
def z_B_59 : z_Bk := [(0, [true, false, false, false, false, false, false, false, false], [(.lload_n 0, 0, 0, 0, 0), (.ldc2_w 76, 1, 0, 5, 64), (.ladd, 4, 0, 0, 0), (.lstore_n 2, 5, 0, 0, 0), (.lload_n 2, 6, 0, 0, 0), (.bipush 58, 7, 0, 0, 0), (.lshr, 9, 0, 0, 0), (.lstore 4, 10, 0, 0, 0), (.lload_n 2, 12, 0, 0, 0), (.ldc2_w 86, 13, 0, 8, 288230376151711743), (.land, 16, 0, 0, 0), (.lstore 6, 17, 0, 0, 0), (.iconst 0, 19, 0, 0, 0), (.istore 8, 20, 0, 0, 0)], 22),
  (22, [false, false, false, false, true, false, true, false, true], [(.iload 8, 22, 0, 0, 0), (.bipush 6, 24, 0, 0, 0), (.if_icmp .ge 39, 26, 0, 0, 0), (.lload 6, 29, 0, 0, 0), (.ldc2_w 88, 31, 0, 9, 10), (.lmul, 34, 0, 0, 0), (.lstore 6, 35, 0, 0, 0), (.lload 4, 37, 0, 0, 0), (.ldc2_w 88, 39, 0, 9, 10), (.lmul, 42, 0, 0, 0), (.lload 6, 43, 0, 0, 0), (.bipush 58, 45, 0, 0, 0), (.lshr, 47, 0, 0, 0), (.ladd, 48, 0, 0, 0), (.lstore 4, 49, 0, 0, 0), (.lload 6, 51, 0, 0, 0), (.ldc2_w 86, 53, 0, 8, 288230376151711743), (.land, 56, 0, 0, 0), (.lstore 6, 57, 0, 0, 0), (.iinc 8 1, 59, 0, 0, 0), (.goto (-40), 62, 0, 0, 0)], 65),
  (65, [false, false, false, false, true, false, false, false, false], [(.lload 4, 65, 0, 0, 0), (.l2i, 67, 0, 0, 0), (.ireturn, 68, 0, 0, 0)], 69)]
def z_md_59 : z_Md := (false, [], (fun t => z_B_59.lookup t), 9)
set_option maxRecDepth 100000 in
theorem z_gm_59 {mt : Nat → z_Md} (h : mt 59 = z_md_59) : z_gm z_mi mt 59 := z_okB_ok (o := 5) (vp := 0) (md := (false, [], 9)) (bl := z_B_59) h (fun z => absurd rfl z) (by decide +kernel)
/-- LacedHoles$Roots.knotSpan(LLacedHoles$Boot;LLacedHoles$Way;IZ)I -/
def z_B_60 : z_Bk := [(0, [true, true, true, true, true, false, false, false, false, false, false, false, false, false, false, false, false], [(.aload_n 0, 0, 0, 0, 0), (.aload_n 1, 1, 0, 0, 0), (.aload_n 2, 2, 0, 0, 0), (.invokevirtual 90, 3, 54, 2, 3972), (.lstore 5, 6, 0, 0, 0), (.ldc2_w 30, 8, 0, 2, 2), (.iload_n 3, 11, 0, 0, 0), (.i2l, 12, 0, 0, 0), (.lmul, 13, 0, 0, 0), (.bipush 48, 14, 0, 0, 0), (.lshl, 16, 0, 0, 0), (.lstore 7, 17, 0, 0, 0), (.lconst 0, 19, 0, 0, 0), (.lstore 9, 20, 0, 0, 0), (.iconst (-1), 22, 0, 0, 0), (.istore 11, 23, 0, 0, 0), (.iconst 0, 25, 0, 0, 0), (.istore 12, 26, 0, 0, 0)], 28),
  (28, [true, true, true, false, true, true, false, true, false, true, false, true, true, false, false, false, false], [(.iload 12, 28, 0, 0, 0), (.aload_n 2, 30, 0, 0, 0), (.getfield 61, 31, 8, 1, 28), (.if_icmp .ge 93, 34, 0, 0, 0), (.lload 9, 37, 0, 0, 0), (.aload_n 0, 39, 0, 0, 0), (.aload_n 1, 40, 0, 0, 0), (.aload_n 2, 41, 0, 0, 0), (.iload 12, 42, 0, 0, 0), (.invokevirtual 66, 44, 65, 1, 3224), (.aload_n 2, 47, 0, 0, 0), (.iload 12, 48, 0, 0, 0), (.iconst 1, 50, 0, 0, 0), (.iadd, 51, 0, 0, 0), (.invokevirtual 66, 52, 65, 1, 3224), (.invokevirtual 69, 55, 52, 3, 3236), (.ladd, 58, 0, 0, 0), (.lstore 13, 59, 0, 0, 0), (.lload 7, 61, 0, 0, 0), (.lload 9, 63, 0, 0, 0), (.lload 5, 65, 0, 0, 0), (.lload 9, 67, 0, 0, 0), (.lsub, 69, 0, 0, 0), (.lsub, 70, 0, 0, 0), (.invokestatic 78, 71, 56, 2, 64), (.istore 15, 74, 0, 0, 0), (.lload 13, 76, 0, 0, 0), (.lload 5, 78, 0, 0, 0), (.lload 13, 80, 0, 0, 0), (.lsub, 82, 0, 0, 0), (.lsub, 83, 0, 0, 0), (.lload 7, 84, 0, 0, 0), (.lneg, 86, 0, 0, 0), (.invokestatic 78, 87, 56, 2, 64), (.istore 16, 90, 0, 0, 0), (.iload 15, 92, 0, 0, 0), (.ifCond .ne 23, 94, 0, 0, 0), (.iload 16, 97, 0, 0, 0), (.ifCond .ne 18, 99, 0, 0, 0), (.iload 4, 102, 0, 0, 0), (.ifCond .ne 9, 104, 0, 0, 0), (.iload 11, 107, 0, 0, 0), (.iconst (-1), 109, 0, 0, 0), (.if_icmp .ne 7, 110, 0, 0, 0)], 113),
  (113, [true, true, true, false, true, true, false, true, false, false, false, false, true, true, false, false, false], [(.iload 12, 113, 0, 0, 0), (.istore 11, 115, 0, 0, 0)], 117),
  (117, [true, true, true, false, true, true, false, true, false, false, false, true, true, true, false, false, false], [(.lload 13, 117, 0, 0, 0), (.lstore 9, 119, 0, 0, 0), (.iinc 12 1, 121, 0, 0, 0), (.goto (-96), 124, 0, 0, 0)], 127),
  (127, [false, false, false, false, false, false, false, false, false, false, false, true, false, false, false, false, false], [(.iload 11, 127, 0, 0, 0), (.ireturn, 129, 0, 0, 0)], 130)]
def z_md_60 : z_Md := (false, [], (fun t => z_B_60.lookup t), 17)
set_option maxRecDepth 100000 in
theorem z_gm_60 {mt : Nat → z_Md} (h : mt 60 = z_md_60) : z_gm z_mi mt 60 := z_okB_ok (o := 5) (vp := 0) (md := (false, [], 17)) (bl := z_B_60) h (fun z => absurd rfl z) (by decide +kernel)
/-- LacedHoles$Way.<init>()V -/
def z_B_61 : z_Bk := [(0, [true], [(.aload_n 0, 0, 0, 0, 0), (.invokespecial 3, 1, 999, 0, 6), (.aload_n 0, 4, 0, 0, 0), (.bipush 12, 5, 0, 0, 0), (.newarray .int, 7, 0, 0, 0), (.putfield 9, 9, 8, 0, 22), (.aload_n 0, 12, 0, 0, 0), (.iconst 0, 13, 0, 0, 0), (.putfield 15, 14, 8, 1, 23), (.return_, 17, 0, 0, 0)], 18)]
def z_md_61 : z_Md := (false, [], (fun t => z_B_61.lookup t), 1)
set_option maxRecDepth 100000 in
theorem z_gm_61 {mt : Nat → z_Md} (h : mt 61 = z_md_61) : z_gm z_mi mt 61 := z_okB_ok (o := 6) (vp := 0) (md := (false, [], 1)) (bl := z_B_61) h (fun z => absurd rfl z) (by decide +kernel)
/-- LacedHoles$Way.clear()V -/
def z_B_62 : z_Bk := [(0, [true], [(.aload_n 0, 0, 0, 0, 0), (.iconst 0, 1, 0, 0, 0), (.putfield 15, 2, 8, 1, 23), (.return_, 5, 0, 0, 0)], 6)]
def z_md_62 : z_Md := (false, [], (fun t => z_B_62.lookup t), 1)
set_option maxRecDepth 100000 in
theorem z_gm_62 {mt : Nat → z_Md} (h : mt 62 = z_md_62) : z_gm z_mi mt 62 := z_okB_ok (o := 6) (vp := 0) (md := (false, [], 1)) (bl := z_B_62) h (fun z => absurd rfl z) (by decide +kernel)
/-- LacedHoles$Way.add(I)V -/
def z_B_63 : z_Bk := [(0, [true, true], [(.aload_n 0, 0, 0, 0, 0), (.getfield 15, 1, 8, 1, 23), (.bipush 12, 4, 0, 0, 0), (.if_icmp .ge 25, 6, 0, 0, 0), (.aload_n 0, 9, 0, 0, 0), (.getfield 9, 10, 8, 0, 22), (.aload_n 0, 13, 0, 0, 0), (.getfield 15, 14, 8, 1, 23), (.iload_n 1, 17, 0, 0, 0), (.invokestatic 19, 18, 8, 3, 78), (.aload_n 0, 21, 0, 0, 0), (.dup, 22, 0, 0, 0), (.getfield 15, 23, 8, 1, 23), (.iconst 1, 26, 0, 0, 0), (.iadd, 27, 0, 0, 0), (.putfield 15, 28, 8, 1, 23)], 31),
  (31, [false, false], [(.return_, 31, 0, 0, 0)], 32)]
def z_md_63 : z_Md := (false, [], (fun t => z_B_63.lookup t), 2)
set_option maxRecDepth 100000 in
theorem z_gm_63 {mt : Nat → z_Md} (h : mt 63 = z_md_63) : z_gm z_mi mt 63 := z_okB_ok (o := 6) (vp := 0) (md := (false, [], 2)) (bl := z_B_63) h (fun z => absurd rfl z) (by decide +kernel)
/-- LacedHoles$Way.become(LLacedHoles$Way;)V -/
def z_B_64 : z_Bk := [(0, [true, true, false], [(.aload_n 0, 0, 0, 0, 0), (.aload_n 1, 1, 0, 0, 0), (.getfield 15, 2, 8, 1, 23), (.putfield 15, 5, 8, 1, 23), (.iconst 0, 8, 0, 0, 0), (.istore_n 2, 9, 0, 0, 0)], 10),
  (10, [true, true, true], [(.iload_n 2, 10, 0, 0, 0), (.aload_n 0, 11, 0, 0, 0), (.getfield 15, 12, 8, 1, 23), (.if_icmp .ge 22, 15, 0, 0, 0), (.aload_n 0, 18, 0, 0, 0), (.getfield 9, 19, 8, 0, 22), (.iload_n 2, 22, 0, 0, 0), (.aload_n 1, 23, 0, 0, 0), (.iload_n 2, 24, 0, 0, 0), (.invokevirtual 25, 25, 65, 1, 1384), (.invokestatic 19, 28, 8, 3, 78), (.iinc 2 1, 31, 0, 0, 0), (.goto (-24), 34, 0, 0, 0)], 37),
  (37, [false, false, false], [(.return_, 37, 0, 0, 0)], 38)]
def z_md_64 : z_Md := (false, [], (fun t => z_B_64.lookup t), 3)
set_option maxRecDepth 100000 in
theorem z_gm_64 {mt : Nat → z_Md} (h : mt 64 = z_md_64) : z_gm z_mi mt 64 := z_okB_ok (o := 6) (vp := 0) (md := (false, [], 3)) (bl := z_B_64) h (fun z => absurd rfl z) (by decide +kernel)
/-- LacedHoles$Way.hole(I)I -/
def z_B_65 : z_Bk := [(0, [true, true], [(.aload_n 0, 0, 0, 0, 0), (.getfield 15, 1, 8, 1, 23), (.iconst 1, 4, 0, 0, 0), (.if_icmp .ge 7, 5, 0, 0, 0), (.iconst (-1), 8, 0, 0, 0), (.goto 18, 9, 0, 0, 0)], 12),
  (12, [true, true], [(.aload_n 0, 12, 0, 0, 0), (.getfield 9, 13, 8, 0, 22), (.iload_n 1, 16, 0, 0, 0), (.aload_n 0, 17, 0, 0, 0), (.getfield 15, 18, 8, 1, 23), (.invokestatic 29, 21, 2, 2, 26), (.invokestatic 35, 24, 7, 2, 27)], 27),
  (27, [false, false], [(.ireturn, 27, 0, 0, 0)], 28)]
def z_md_65 : z_Md := (false, [], (fun t => z_B_65.lookup t), 2)
set_option maxRecDepth 100000 in
theorem z_gm_65 {mt : Nat → z_Md} (h : mt 65 = z_md_65) : z_gm z_mi mt 65 := z_okB_ok (o := 6) (vp := 0) (md := (false, [], 2)) (bl := z_B_65) h (fun z => absurd rfl z) (by decide +kernel)
/-- LacedHoles$Way.setHole(II)V -/
def z_B_66 : z_Bk := [(0, [true, true, true], [(.aload_n 0, 0, 0, 0, 0), (.getfield 9, 1, 8, 0, 22), (.iload_n 1, 4, 0, 0, 0), (.iload_n 2, 5, 0, 0, 0), (.invokestatic 19, 6, 8, 3, 78), (.return_, 9, 0, 0, 0)], 10)]
def z_md_66 : z_Md := (false, [], (fun t => z_B_66.lookup t), 3)
set_option maxRecDepth 100000 in
theorem z_gm_66 {mt : Nat → z_Md} (h : mt 66 = z_md_66) : z_gm z_mi mt 66 := z_okB_ok (o := 6) (vp := 0) (md := (false, [], 3)) (bl := z_B_66) h (fun z => absurd rfl z) (by decide +kernel)
/-- LacedHoles$Way.bits()I -/
def z_B_67 : z_Bk := [(0, [true, false, false], [(.iconst 0, 0, 0, 0, 0), (.istore_n 1, 1, 0, 0, 0), (.iconst 0, 2, 0, 0, 0), (.istore_n 2, 3, 0, 0, 0)], 4),
  (4, [true, true, true], [(.iload_n 2, 4, 0, 0, 0), (.aload_n 0, 5, 0, 0, 0), (.getfield 15, 6, 8, 1, 23), (.if_icmp .ge 19, 9, 0, 0, 0), (.iload_n 1, 12, 0, 0, 0), (.iconst 1, 13, 0, 0, 0), (.aload_n 0, 14, 0, 0, 0), (.iload_n 2, 15, 0, 0, 0), (.invokevirtual 25, 16, 65, 1, 1384), (.ishl, 19, 0, 0, 0), (.ior, 20, 0, 0, 0), (.istore_n 1, 21, 0, 0, 0), (.iinc 2 1, 22, 0, 0, 0), (.goto (-21), 25, 0, 0, 0)], 28),
  (28, [false, true, false], [(.iload_n 1, 28, 0, 0, 0), (.ireturn, 29, 0, 0, 0)], 30)]
def z_md_67 : z_Md := (false, [], (fun t => z_B_67.lookup t), 3)
set_option maxRecDepth 100000 in
theorem z_gm_67 {mt : Nat → z_Md} (h : mt 67 = z_md_67) : z_gm z_mi mt 67 := z_okB_ok (o := 6) (vp := 0) (md := (false, [], 3)) (bl := z_B_67) h (fun z => absurd rfl z) (by decide +kernel)
/-- LacedHoles$Way.find(I)I -/
def z_B_68 : z_Bk := [(0, [true, true, false], [(.iconst 0, 0, 0, 0, 0), (.istore_n 2, 1, 0, 0, 0)], 2),
  (2, [true, true, true], [(.iload_n 2, 2, 0, 0, 0), (.aload_n 0, 3, 0, 0, 0), (.getfield 15, 4, 8, 1, 23), (.if_icmp .ge 23, 7, 0, 0, 0), (.aload_n 0, 10, 0, 0, 0), (.getfield 9, 11, 8, 0, 22), (.iload_n 2, 14, 0, 0, 0), (.invokestatic 35, 15, 7, 2, 27), (.iload_n 1, 18, 0, 0, 0), (.if_icmp .ne 5, 19, 0, 0, 0), (.iload_n 2, 22, 0, 0, 0), (.ireturn, 23, 0, 0, 0)], 24),
  (24, [true, true, true], [(.iinc 2 1, 24, 0, 0, 0), (.goto (-25), 27, 0, 0, 0)], 30),
  (30, [false, false, false], [(.iconst (-1), 30, 0, 0, 0), (.ireturn, 31, 0, 0, 0)], 32)]
def z_md_68 : z_Md := (false, [], (fun t => z_B_68.lookup t), 3)
set_option maxRecDepth 100000 in
theorem z_gm_68 {mt : Nat → z_Md} (h : mt 68 = z_md_68) : z_gm z_mi mt 68 := z_okB_ok (o := 6) (vp := 0) (md := (false, [], 3)) (bl := z_B_68) h (fun z => absurd rfl z) (by decide +kernel)
/-- LacedHoles$Way.readFrom(LLacedHoles$Tape;LLacedHoles$Boot;)V -/
def z_B_69 : z_Bk := [(0, [true, true, true, false, false, false], [(.aload_n 0, 0, 0, 0, 0), (.invokevirtual 39, 1, 62, 0, 2824), (.aload_n 2, 4, 0, 0, 0), (.getfield 42, 5, 0, 4, 65), (.istore_n 3, 8, 0, 0, 0), (.iconst 0, 9, 0, 0, 0), (.istore 4, 10, 0, 0, 0)], 12),
  (12, [true, true, true, true, true, false], [(.iload 4, 12, 0, 0, 0), (.bipush 12, 14, 0, 0, 0), (.if_icmp .gt 66, 16, 0, 0, 0), (.aload_n 1, 19, 0, 0, 0), (.invokevirtual 47, 20, 17, 0, 2838), (.ifCond .ne 59, 23, 0, 0, 0), (.aload_n 1, 26, 0, 0, 0), (.invokevirtual 53, 27, 23, 0, 2854), (.ifCond .eq 6, 30, 0, 0, 0), (.goto 49, 33, 0, 0, 0)], 36),
  (36, [true, true, true, true, true, false], [(.aload_n 1, 36, 0, 0, 0), (.iconst 0, 37, 0, 0, 0), (.aload_n 2, 38, 0, 0, 0), (.invokevirtual 56, 39, 38, 0, 2864), (.iconst 1, 42, 0, 0, 0), (.isub, 43, 0, 0, 0), (.invokevirtual 59, 44, 28, 2, 2886), (.istore 5, 47, 0, 0, 0), (.iload_n 3, 49, 0, 0, 0), (.iload 5, 50, 0, 0, 0), (.ishr, 52, 0, 0, 0), (.iconst 1, 53, 0, 0, 0), (.iand, 54, 0, 0, 0), (.ifCond .eq 8, 55, 0, 0, 0), (.aload_n 1, 58, 0, 0, 0), (.iconst 2, 59, 0, 0, 0), (.invokevirtual 62, 60, 21, 1, 2902)], 63),
  (63, [true, true, true, true, true, true], [(.iload_n 3, 63, 0, 0, 0), (.iconst 1, 64, 0, 0, 0), (.iload 5, 65, 0, 0, 0), (.ishl, 67, 0, 0, 0), (.ior, 68, 0, 0, 0), (.istore_n 3, 69, 0, 0, 0), (.aload_n 0, 70, 0, 0, 0), (.iload 5, 71, 0, 0, 0), (.invokevirtual 66, 73, 63, 1, 2920), (.iinc 4 1, 76, 0, 0, 0), (.goto (-67), 79, 0, 0, 0)], 82),
  (82, [true, true, false, false, false, false], [(.aload_n 0, 82, 0, 0, 0), (.getfield 15, 83, 8, 1, 23), (.iconst 3, 86, 0, 0, 0), (.if_icmp .ge 8, 87, 0, 0, 0), (.aload_n 1, 90, 0, 0, 0), (.iconst 4, 91, 0, 0, 0), (.invokevirtual 69, 92, 22, 1, 2934)], 95),
  (95, [false, false, false, false, false, false], [(.return_, 95, 0, 0, 0)], 96)]
def z_md_69 : z_Md := (false, [], (fun t => z_B_69.lookup t), 6)
set_option maxRecDepth 100000 in
theorem z_gm_69 {mt : Nat → z_Md} (h : mt 69 = z_md_69) : z_gm z_mi mt 69 := z_okB_ok (o := 6) (vp := 0) (md := (false, [], 6)) (bl := z_B_69) h (fun z => absurd rfl z) (by decide +kernel)
/-- LacedHoles$Way.tellAsRound(LLacedHoles$Way;)V -/
def z_B_70 : z_Bk := [(0, [true, true, false, false, false], [(.aload_n 0, 0, 0, 0, 0), (.invokevirtual 39, 1, 62, 0, 2824), (.iconst 0, 4, 0, 0, 0), (.istore_n 2, 5, 0, 0, 0), (.iconst 1, 6, 0, 0, 0), (.istore_n 3, 7, 0, 0, 0)], 8),
  (8, [true, true, true, true, false], [(.iload_n 3, 8, 0, 0, 0), (.aload_n 1, 9, 0, 0, 0), (.getfield 15, 10, 8, 1, 23), (.if_icmp .ge 24, 13, 0, 0, 0), (.aload_n 1, 16, 0, 0, 0), (.iload_n 3, 17, 0, 0, 0), (.invokevirtual 25, 18, 65, 1, 1384), (.aload_n 1, 21, 0, 0, 0), (.iload_n 2, 22, 0, 0, 0), (.invokevirtual 25, 23, 65, 1, 1384), (.if_icmp .ge 5, 26, 0, 0, 0), (.iload_n 3, 29, 0, 0, 0), (.istore_n 2, 30, 0, 0, 0)], 31),
  (31, [true, true, true, true, false], [(.iinc 3 1, 31, 0, 0, 0), (.goto (-26), 34, 0, 0, 0)], 37),
  (37, [true, true, true, false, false], [(.aload_n 1, 37, 0, 0, 0), (.iload_n 2, 38, 0, 0, 0), (.iconst 1, 39, 0, 0, 0), (.iadd, 40, 0, 0, 0), (.invokevirtual 25, 41, 65, 1, 1384), (.aload_n 1, 44, 0, 0, 0), (.iload_n 2, 45, 0, 0, 0), (.iconst 1, 46, 0, 0, 0), (.isub, 47, 0, 0, 0), (.invokevirtual 25, 48, 65, 1, 1384), (.if_icmp .ge 7, 51, 0, 0, 0), (.iconst 1, 54, 0, 0, 0), (.goto 4, 55, 0, 0, 0)], 58),
  (58, [true, true, true, false, false], [(.iconst (-1), 58, 0, 0, 0)], 59),
  (59, [true, true, true, false, false], [(.istore_n 3, 59, 0, 0, 0), (.iconst 0, 60, 0, 0, 0), (.istore 4, 61, 0, 0, 0)], 63),
  (63, [true, true, true, true, true], [(.iload 4, 63, 0, 0, 0), (.aload_n 1, 65, 0, 0, 0), (.getfield 15, 66, 8, 1, 23), (.if_icmp .ge 23, 69, 0, 0, 0), (.aload_n 0, 72, 0, 0, 0), (.aload_n 1, 73, 0, 0, 0), (.iload_n 2, 74, 0, 0, 0), (.iload_n 3, 75, 0, 0, 0), (.iload 4, 76, 0, 0, 0), (.imul, 78, 0, 0, 0), (.iadd, 79, 0, 0, 0), (.invokevirtual 25, 80, 65, 1, 1384), (.invokevirtual 66, 83, 63, 1, 2920), (.iinc 4 1, 86, 0, 0, 0), (.goto (-26), 89, 0, 0, 0)], 92),
  (92, [false, false, false, false, false], [(.return_, 92, 0, 0, 0)], 93)]
def z_md_70 : z_Md := (false, [], (fun t => z_B_70.lookup t), 5)
set_option maxRecDepth 100000 in
theorem z_gm_70 {mt : Nat → z_Md} (h : mt 70 = z_md_70) : z_gm z_mi mt 70 := z_okB_ok (o := 6) (vp := 0) (md := (false, [], 5)) (bl := z_B_70) h (fun z => absurd rfl z) (by decide +kernel)
/-- LacedHoles$Way.acrossAfter(LLacedHoles$Boot;I)I -/
def z_B_71 : z_Bk := [(0, [true, true, true], [(.aload_n 1, 0, 0, 0, 0), (.aload_n 0, 1, 0, 0, 0), (.iload_n 2, 2, 0, 0, 0), (.invokevirtual 25, 3, 65, 1, 1384), (.aload_n 0, 6, 0, 0, 0), (.iload_n 2, 7, 0, 0, 0), (.iconst 1, 8, 0, 0, 0), (.iadd, 9, 0, 0, 0), (.invokevirtual 25, 10, 65, 1, 1384), (.invokevirtual 72, 13, 45, 2, 3136), (.ireturn, 16, 0, 0, 0)], 17)]
def z_md_71 : z_Md := (false, [], (fun t => z_B_71.lookup t), 3)
set_option maxRecDepth 100000 in
theorem z_gm_71 {mt : Nat → z_Md} (h : mt 71 = z_md_71) : z_gm z_mi mt 71 := z_okB_ok (o := 6) (vp := 0) (md := (false, [], 3)) (bl := z_B_71) h (fun z => absurd rfl z) (by decide +kernel)
/-- LacedHoles$Way.firstAgainst(LLacedHoles$Boot;)I -/
def z_B_72 : z_Bk := [(0, [true, true, false], [(.iconst 0, 0, 0, 0, 0), (.istore_n 2, 1, 0, 0, 0)], 2),
  (2, [true, true, true], [(.iload_n 2, 2, 0, 0, 0), (.aload_n 0, 3, 0, 0, 0), (.getfield 15, 4, 8, 1, 23), (.if_icmp .ge 36, 7, 0, 0, 0), (.aload_n 1, 10, 0, 0, 0), (.aload_n 0, 11, 0, 0, 0), (.aload_n 1, 12, 0, 0, 0), (.iload_n 2, 13, 0, 0, 0), (.iconst 1, 14, 0, 0, 0), (.isub, 15, 0, 0, 0), (.invokevirtual 75, 16, 71, 2, 3128), (.aload_n 0, 19, 0, 0, 0), (.aload_n 1, 20, 0, 0, 0), (.iload_n 2, 21, 0, 0, 0), (.invokevirtual 75, 22, 71, 2, 3128), (.invokevirtual 79, 25, 46, 2, 3152), (.ifCond .ne 9, 28, 0, 0, 0), (.aload_n 0, 31, 0, 0, 0), (.iload_n 2, 32, 0, 0, 0), (.invokevirtual 25, 33, 65, 1, 1384), (.ireturn, 36, 0, 0, 0)], 37),
  (37, [true, true, true], [(.iinc 2 1, 37, 0, 0, 0), (.goto (-38), 40, 0, 0, 0)], 43),
  (43, [false, false, false], [(.iconst (-1), 43, 0, 0, 0), (.ireturn, 44, 0, 0, 0)], 45)]
def z_md_72 : z_Md := (false, [], (fun t => z_B_72.lookup t), 3)
set_option maxRecDepth 100000 in
theorem z_gm_72 {mt : Nat → z_Md} (h : mt 72 = z_md_72) : z_gm z_mi mt 72 := z_okB_ok (o := 6) (vp := 0) (md := (false, [], 3)) (bl := z_B_72) h (fun z => absurd rfl z) (by decide +kernel)
/-- LacedHoles$Way.spansAcross(LLacedHoles$Boot;)I -/
def z_B_73 : z_Bk := [(0, [true, true, false, false], [(.iconst 0, 0, 0, 0, 0), (.istore_n 2, 1, 0, 0, 0), (.iconst 0, 2, 0, 0, 0), (.istore_n 3, 3, 0, 0, 0)], 4),
  (4, [true, true, true, true], [(.iload_n 3, 4, 0, 0, 0), (.aload_n 0, 5, 0, 0, 0), (.getfield 15, 6, 8, 1, 23), (.if_icmp .ge 18, 9, 0, 0, 0), (.iload_n 2, 12, 0, 0, 0), (.aload_n 0, 13, 0, 0, 0), (.aload_n 1, 14, 0, 0, 0), (.iload_n 3, 15, 0, 0, 0), (.invokevirtual 75, 16, 71, 2, 3128), (.iadd, 19, 0, 0, 0), (.istore_n 2, 20, 0, 0, 0), (.iinc 3 1, 21, 0, 0, 0), (.goto (-20), 24, 0, 0, 0)], 27),
  (27, [false, false, true, false], [(.iload_n 2, 27, 0, 0, 0), (.ireturn, 28, 0, 0, 0)], 29)]
def z_md_73 : z_Md := (false, [], (fun t => z_B_73.lookup t), 4)
set_option maxRecDepth 100000 in
theorem z_gm_73 {mt : Nat → z_Md} (h : mt 73 = z_md_73) : z_gm z_mi mt 73 := z_okB_ok (o := 6) (vp := 0) (md := (false, [], 4)) (bl := z_B_73) h (fun z => absurd rfl z) (by decide +kernel)
/-- LacedHoles$Way.turns(LLacedHoles$Boot;)I -/
def z_B_74 : z_Bk := [(0, [true, true, false, false], [(.iconst 0, 0, 0, 0, 0), (.istore_n 2, 1, 0, 0, 0), (.iconst 0, 2, 0, 0, 0), (.istore_n 3, 3, 0, 0, 0)], 4),
  (4, [true, true, true, true], [(.iload_n 3, 4, 0, 0, 0), (.aload_n 0, 5, 0, 0, 0), (.getfield 15, 6, 8, 1, 23), (.if_icmp .ge 30, 9, 0, 0, 0), (.aload_n 0, 12, 0, 0, 0), (.aload_n 1, 13, 0, 0, 0), (.iload_n 3, 14, 0, 0, 0), (.iconst 1, 15, 0, 0, 0), (.isub, 16, 0, 0, 0), (.invokevirtual 75, 17, 71, 2, 3128), (.aload_n 0, 20, 0, 0, 0), (.aload_n 1, 21, 0, 0, 0), (.iload_n 3, 22, 0, 0, 0), (.invokevirtual 75, 23, 71, 2, 3128), (.iadd, 26, 0, 0, 0), (.ifCond .ne 6, 27, 0, 0, 0), (.iinc 2 1, 30, 0, 0, 0)], 33),
  (33, [true, true, true, true], [(.iinc 3 1, 33, 0, 0, 0), (.goto (-32), 36, 0, 0, 0)], 39),
  (39, [false, false, true, false], [(.iload_n 2, 39, 0, 0, 0), (.ireturn, 40, 0, 0, 0)], 41)]
def z_md_74 : z_Md := (false, [], (fun t => z_B_74.lookup t), 4)
set_option maxRecDepth 100000 in
theorem z_gm_74 {mt : Nat → z_Md} (h : mt 74 = z_md_74) : z_gm z_mi mt 74 := z_okB_ok (o := 6) (vp := 0) (md := (false, [], 4)) (bl := z_B_74) h (fun z => absurd rfl z) (by decide +kernel)
/-- LacedHoles$Way.wearOf(LLacedHoles$Boot;I)I -/
def z_B_75 : z_Bk := [(0, [true, true, true, false], [(.aload_n 0, 0, 0, 0, 0), (.iload_n 2, 1, 0, 0, 0), (.invokevirtual 83, 2, 68, 1, 1416), (.istore_n 3, 5, 0, 0, 0), (.iload_n 3, 6, 0, 0, 0), (.iconst (-1), 7, 0, 0, 0), (.if_icmp .ne 7, 8, 0, 0, 0), (.iconst 0, 11, 0, 0, 0), (.goto 20, 12, 0, 0, 0)], 15),
  (15, [true, true, false, true], [(.iconst 3, 15, 0, 0, 0), (.aload_n 0, 16, 0, 0, 0), (.aload_n 1, 17, 0, 0, 0), (.iload_n 3, 18, 0, 0, 0), (.iconst 1, 19, 0, 0, 0), (.isub, 20, 0, 0, 0), (.invokevirtual 75, 21, 71, 2, 3128), (.isub, 24, 0, 0, 0), (.aload_n 0, 25, 0, 0, 0), (.aload_n 1, 26, 0, 0, 0), (.iload_n 3, 27, 0, 0, 0), (.invokevirtual 75, 28, 71, 2, 3128), (.isub, 31, 0, 0, 0)], 32),
  (32, [false, false, false, false], [(.ireturn, 32, 0, 0, 0)], 33)]
def z_md_75 : z_Md := (false, [], (fun t => z_B_75.lookup t), 4)
set_option maxRecDepth 100000 in
theorem z_gm_75 {mt : Nat → z_Md} (h : mt 75 = z_md_75) : z_gm z_mi mt 75 := z_okB_ok (o := 6) (vp := 0) (md := (false, [], 4)) (bl := z_B_75) h (fun z => absurd rfl z) (by decide +kernel)
/-- LacedHoles$Way.selfImages(LLacedHoles$Boot;)I -/
def z_B_76 : z_Bk := [(0, [true, true, false], [(.iconst 1, 0, 0, 0, 0), (.istore_n 2, 1, 0, 0, 0), (.aload_n 0, 2, 0, 0, 0), (.aload_n 1, 3, 0, 0, 0), (.iconst 1, 4, 0, 0, 0), (.iconst 0, 5, 0, 0, 0), (.invokevirtual 86, 6, 77, 3, 1368), (.ifCond .eq 6, 9, 0, 0, 0), (.iinc 2 1, 12, 0, 0, 0)], 15),
  (15, [true, true, true], [(.aload_n 0, 15, 0, 0, 0), (.aload_n 1, 16, 0, 0, 0), (.iconst 0, 17, 0, 0, 0), (.iconst 1, 18, 0, 0, 0), (.invokevirtual 86, 19, 77, 3, 1368), (.ifCond .eq 6, 22, 0, 0, 0), (.iinc 2 1, 25, 0, 0, 0)], 28),
  (28, [true, true, true], [(.aload_n 0, 28, 0, 0, 0), (.aload_n 1, 29, 0, 0, 0), (.iconst 1, 30, 0, 0, 0), (.iconst 1, 31, 0, 0, 0), (.invokevirtual 86, 32, 77, 3, 1368), (.ifCond .eq 6, 35, 0, 0, 0), (.iinc 2 1, 38, 0, 0, 0)], 41),
  (41, [false, false, true], [(.iload_n 2, 41, 0, 0, 0), (.ireturn, 42, 0, 0, 0)], 43)]
def z_md_76 : z_Md := (false, [], (fun t => z_B_76.lookup t), 3)
set_option maxRecDepth 100000 in
theorem z_gm_76 {mt : Nat → z_Md} (h : mt 76 = z_md_76) : z_gm z_mi mt 76 := z_okB_ok (o := 6) (vp := 0) (md := (false, [], 3)) (bl := z_B_76) h (fun z => absurd rfl z) (by decide +kernel)
/-- LacedHoles$Way.isOwnImage(LLacedHoles$Boot;ZZ)Z -/
def z_B_77 : z_Bk := [(0, [true, true, true, true, false, false, false, false], [(.aload_n 0, 0, 0, 0, 0), (.aload_n 1, 1, 0, 0, 0), (.aload_n 0, 2, 0, 0, 0), (.iconst 0, 3, 0, 0, 0), (.invokevirtual 25, 4, 65, 1, 1384), (.iload_n 2, 7, 0, 0, 0), (.iload_n 3, 8, 0, 0, 0), (.invokevirtual 90, 9, 47, 3, 1392), (.invokevirtual 83, 12, 68, 1, 1416), (.istore 4, 15, 0, 0, 0), (.iload 4, 17, 0, 0, 0), (.iconst (-1), 19, 0, 0, 0), (.if_icmp .ne 5, 20, 0, 0, 0), (.iconst 0, 23, 0, 0, 0), (.ireturn, 24, 0, 0, 0)], 25),
  (25, [true, true, true, true, true, false, false, false], [(.aload_n 1, 25, 0, 0, 0), (.aload_n 0, 26, 0, 0, 0), (.iconst 1, 27, 0, 0, 0), (.invokevirtual 25, 28, 65, 1, 1384), (.iload_n 2, 31, 0, 0, 0), (.iload_n 3, 32, 0, 0, 0), (.invokevirtual 90, 33, 47, 3, 1392), (.istore 5, 36, 0, 0, 0), (.aload_n 0, 38, 0, 0, 0), (.iload 4, 39, 0, 0, 0), (.iconst 1, 41, 0, 0, 0), (.iadd, 42, 0, 0, 0), (.invokevirtual 25, 43, 65, 1, 1384), (.iload 5, 46, 0, 0, 0), (.if_icmp .ne 7, 48, 0, 0, 0), (.iconst 1, 51, 0, 0, 0), (.goto 4, 52, 0, 0, 0)], 55),
  (55, [true, true, true, true, true, false, false, false], [(.iconst (-1), 55, 0, 0, 0)], 56),
  (56, [true, true, true, true, true, false, false, false], [(.istore 6, 56, 0, 0, 0), (.iconst 1, 58, 0, 0, 0), (.istore 7, 59, 0, 0, 0)], 61),
  (61, [true, true, true, true, true, false, true, true], [(.iload 7, 61, 0, 0, 0), (.aload_n 0, 63, 0, 0, 0), (.getfield 15, 64, 8, 1, 23), (.if_icmp .ge 38, 67, 0, 0, 0), (.aload_n 0, 70, 0, 0, 0), (.iload 4, 71, 0, 0, 0), (.iload 6, 73, 0, 0, 0), (.iload 7, 75, 0, 0, 0), (.imul, 77, 0, 0, 0), (.iadd, 78, 0, 0, 0), (.invokevirtual 25, 79, 65, 1, 1384), (.aload_n 1, 82, 0, 0, 0), (.aload_n 0, 83, 0, 0, 0), (.iload 7, 84, 0, 0, 0), (.invokevirtual 25, 86, 65, 1, 1384), (.iload_n 2, 89, 0, 0, 0), (.iload_n 3, 90, 0, 0, 0), (.invokevirtual 90, 91, 47, 3, 1392), (.if_icmp .eq 5, 94, 0, 0, 0), (.iconst 0, 97, 0, 0, 0), (.ireturn, 98, 0, 0, 0)], 99),
  (99, [true, true, true, true, true, false, true, true], [(.iinc 7 1, 99, 0, 0, 0), (.goto (-41), 102, 0, 0, 0)], 105),
  (105, [false, false, false, false, false, false, false, false], [(.iconst 1, 105, 0, 0, 0), (.ireturn, 106, 0, 0, 0)], 107)]
def z_md_77 : z_Md := (true, [], (fun t => z_B_77.lookup t), 8)
set_option maxRecDepth 100000 in
theorem z_gm_77 {mt : Nat → z_Md} (h : mt 77 = z_md_77) : z_gm z_mi mt 77 := z_okB_ok (o := 6) (vp := 0) (md := (true, [], 8)) (bl := z_B_77) h (fun z => absurd rfl z) (by decide +kernel)
/-- LacedHoles$Picture.<init>()V -/
def z_B_78 : z_Bk := [(0, [true], [(.aload_n 0, 0, 0, 0, 0), (.invokespecial 3, 1, 999, 0, 7), (.aload_n 0, 4, 0, 0, 0), (.bipush 12, 5, 0, 0, 0), (.newarray .int, 7, 0, 0, 0), (.putfield 9, 9, 3, 0, 30), (.aload_n 0, 12, 0, 0, 0), (.iconst 0, 13, 0, 0, 0), (.putfield 15, 14, 3, 1, 31), (.aload_n 0, 17, 0, 0, 0), (.iconst 0, 18, 0, 0, 0), (.putfield 19, 19, 3, 2, 34), (.return_, 22, 0, 0, 0)], 23)]
def z_md_78 : z_Md := (false, [], (fun t => z_B_78.lookup t), 1)
set_option maxRecDepth 100000 in
theorem z_gm_78 {mt : Nat → z_Md} (h : mt 78 = z_md_78) : z_gm z_mi mt 78 := z_okB_ok (o := 7) (vp := 0) (md := (false, [], 1)) (bl := z_B_78) h (fun z => absurd rfl z) (by decide +kernel)
/-- LacedHoles$Picture.clear()V -/
def z_B_79 : z_Bk := [(0, [true], [(.aload_n 0, 0, 0, 0, 0), (.iconst 0, 1, 0, 0, 0), (.putfield 15, 2, 3, 1, 31), (.aload_n 0, 5, 0, 0, 0), (.iconst 0, 6, 0, 0, 0), (.putfield 19, 7, 3, 2, 34), (.return_, 10, 0, 0, 0)], 11)]
def z_md_79 : z_Md := (false, [], (fun t => z_B_79.lookup t), 1)
set_option maxRecDepth 100000 in
theorem z_gm_79 {mt : Nat → z_Md} (h : mt 79 = z_md_79) : z_gm z_mi mt 79 := z_okB_ok (o := 7) (vp := 0) (md := (false, [], 1)) (bl := z_B_79) h (fun z => absurd rfl z) (by decide +kernel)
/-- LacedHoles$Picture.become(LLacedHoles$Picture;)V -/
def z_B_80 : z_Bk := [(0, [true, true, false], [(.aload_n 0, 0, 0, 0, 0), (.aload_n 1, 1, 0, 0, 0), (.getfield 15, 2, 3, 1, 31), (.putfield 15, 5, 3, 1, 31), (.aload_n 0, 8, 0, 0, 0), (.aload_n 1, 9, 0, 0, 0), (.getfield 19, 10, 3, 2, 34), (.putfield 19, 13, 3, 2, 34), (.iconst 0, 16, 0, 0, 0), (.istore_n 2, 17, 0, 0, 0)], 18),
  (18, [true, true, true], [(.iload_n 2, 18, 0, 0, 0), (.bipush 12, 19, 0, 0, 0), (.if_icmp .ge 25, 21, 0, 0, 0), (.aload_n 0, 24, 0, 0, 0), (.getfield 9, 25, 3, 0, 30), (.iload_n 2, 28, 0, 0, 0), (.aload_n 1, 29, 0, 0, 0), (.getfield 9, 30, 3, 0, 30), (.iload_n 2, 33, 0, 0, 0), (.invokestatic 22, 34, 7, 2, 90), (.invokestatic 28, 37, 8, 3, 100), (.iinc 2 1, 40, 0, 0, 0), (.goto (-25), 43, 0, 0, 0)], 46),
  (46, [false, false, false], [(.return_, 46, 0, 0, 0)], 47)]
def z_md_80 : z_Md := (false, [], (fun t => z_B_80.lookup t), 3)
set_option maxRecDepth 100000 in
theorem z_gm_80 {mt : Nat → z_Md} (h : mt 80 = z_md_80) : z_gm z_mi mt 80 := z_okB_ok (o := 7) (vp := 0) (md := (false, [], 3)) (bl := z_B_80) h (fun z => absurd rfl z) (by decide +kernel)
/-- LacedHoles$Picture.partner(I)I -/
def z_B_81 : z_Bk := [(0, [true, true], [(.aload_n 0, 0, 0, 0, 0), (.getfield 19, 1, 3, 2, 34), (.iload_n 1, 4, 0, 0, 0), (.ishr, 5, 0, 0, 0), (.iconst 1, 6, 0, 0, 0), (.iand, 7, 0, 0, 0), (.ifCond .ne 7, 8, 0, 0, 0), (.iconst (-1), 11, 0, 0, 0), (.goto 11, 12, 0, 0, 0)], 15),
  (15, [true, true], [(.aload_n 0, 15, 0, 0, 0), (.getfield 9, 16, 3, 0, 30), (.iload_n 1, 19, 0, 0, 0), (.invokestatic 22, 20, 7, 2, 90)], 23),
  (23, [false, false], [(.ireturn, 23, 0, 0, 0)], 24)]
def z_md_81 : z_Md := (false, [], (fun t => z_B_81.lookup t), 2)
set_option maxRecDepth 100000 in
theorem z_gm_81 {mt : Nat → z_Md} (h : mt 81 = z_md_81) : z_gm z_mi mt 81 := z_okB_ok (o := 7) (vp := 0) (md := (false, [], 2)) (bl := z_B_81) h (fun z => absurd rfl z) (by decide +kernel)
/-- LacedHoles$Picture.join(II)Z -/
def z_B_82 : z_Bk := [(0, [true, true, true, false], [(.iconst 1, 0, 0, 0, 0), (.iload_n 1, 1, 0, 0, 0), (.ishl, 2, 0, 0, 0), (.iconst 1, 3, 0, 0, 0), (.iload_n 2, 4, 0, 0, 0), (.ishl, 5, 0, 0, 0), (.ior, 6, 0, 0, 0), (.istore_n 3, 7, 0, 0, 0), (.aload_n 0, 8, 0, 0, 0), (.getfield 15, 9, 3, 1, 31), (.bipush 6, 12, 0, 0, 0), (.if_icmp .ge 12, 14, 0, 0, 0), (.aload_n 0, 17, 0, 0, 0), (.getfield 19, 18, 3, 2, 34), (.iload_n 3, 21, 0, 0, 0), (.iand, 22, 0, 0, 0), (.ifCond .eq 5, 23, 0, 0, 0)], 26),
  (26, [false, false, false, false], [(.iconst 0, 26, 0, 0, 0), (.ireturn, 27, 0, 0, 0)], 28),
  (28, [true, true, true, true], [(.aload_n 0, 28, 0, 0, 0), (.getfield 9, 29, 3, 0, 30), (.iload_n 1, 32, 0, 0, 0), (.iload_n 2, 33, 0, 0, 0), (.invokestatic 28, 34, 8, 3, 100), (.aload_n 0, 37, 0, 0, 0), (.getfield 9, 38, 3, 0, 30), (.iload_n 2, 41, 0, 0, 0), (.iload_n 1, 42, 0, 0, 0), (.invokestatic 28, 43, 8, 3, 100), (.aload_n 0, 46, 0, 0, 0), (.dup, 47, 0, 0, 0), (.getfield 19, 48, 3, 2, 34), (.iload_n 3, 51, 0, 0, 0), (.ior, 52, 0, 0, 0), (.putfield 19, 53, 3, 2, 34), (.aload_n 0, 56, 0, 0, 0), (.dup, 57, 0, 0, 0), (.getfield 15, 58, 3, 1, 31), (.iconst 1, 61, 0, 0, 0), (.iadd, 62, 0, 0, 0), (.putfield 15, 63, 3, 1, 31), (.iconst 1, 66, 0, 0, 0), (.ireturn, 67, 0, 0, 0)], 68)]
def z_md_82 : z_Md := (true, [], (fun t => z_B_82.lookup t), 4)
set_option maxRecDepth 100000 in
theorem z_gm_82 {mt : Nat → z_Md} (h : mt 82 = z_md_82) : z_gm z_mi mt 82 := z_okB_ok (o := 7) (vp := 0) (md := (true, [], 4)) (bl := z_B_82) h (fun z => absurd rfl z) (by decide +kernel)
/-- LacedHoles$Picture.seenOf(LLacedHoles$Way;)I -/
def z_B_83 : z_Bk := [(0, [true, true], [(.aload_n 1, 0, 0, 0, 0), (.getfield 32, 1, 8, 1, 26), (.iconst 2, 4, 0, 0, 0), (.aload_n 0, 5, 0, 0, 0), (.getfield 15, 6, 3, 1, 31), (.imul, 9, 0, 0, 0), (.if_icmp .eq 5, 10, 0, 0, 0), (.iconst 0, 13, 0, 0, 0), (.ireturn, 14, 0, 0, 0)], 15),
  (15, [true, true], [(.aload_n 0, 15, 0, 0, 0), (.aload_n 1, 16, 0, 0, 0), (.iconst 0, 17, 0, 0, 0), (.invokevirtual 37, 18, 84, 2, 3875), (.ifCond .eq 5, 21, 0, 0, 0), (.iconst 1, 24, 0, 0, 0), (.ireturn, 25, 0, 0, 0)], 26),
  (26, [true, true], [(.aload_n 0, 26, 0, 0, 0), (.aload_n 1, 27, 0, 0, 0), (.iconst 1, 28, 0, 0, 0), (.invokevirtual 37, 29, 84, 2, 3875), (.ifCond .eq 7, 32, 0, 0, 0), (.iconst 2, 35, 0, 0, 0), (.goto 4, 36, 0, 0, 0)], 39),
  (39, [false, false], [(.iconst 0, 39, 0, 0, 0)], 40),
  (40, [false, false], [(.ireturn, 40, 0, 0, 0)], 41)]
def z_md_83 : z_Md := (false, [], (fun t => z_B_83.lookup t), 2)
set_option maxRecDepth 100000 in
theorem z_gm_83 {mt : Nat → z_Md} (h : mt 83 = z_md_83) : z_gm z_mi mt 83 := z_okB_ok (o := 7) (vp := 0) (md := (false, [], 2)) (bl := z_B_83) h (fun z => absurd rfl z) (by decide +kernel)
