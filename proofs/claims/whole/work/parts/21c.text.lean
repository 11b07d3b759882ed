/-! ===== the methods' texts, checked (2) ===== -/
/-- LacedHoles$Weeks.add(LLacedHoles$Scene;II)V -/
def z_B_133 : z_Bk := [(0, [true, true, true, true, false], [(.iconst 0, 0, 0, 0, 0), (.istore 4, 1, 0, 0, 0)], 3),
  (3, [true, true, true, true, true], [(.iload 4, 3, 0, 0, 0), (.bipush 12, 5, 0, 0, 0), (.if_icmp .ge 37, 7, 0, 0, 0), (.aload_n 0, 10, 0, 0, 0), (.getfield 9, 11, 9, 0, 41), (.iload 4, 14, 0, 0, 0), (.aload_n 0, 16, 0, 0, 0), (.getfield 9, 17, 9, 0, 41), (.iload 4, 20, 0, 0, 0), (.invokestatic 46, 22, 7, 2, 262), (.iload_n 3, 25, 0, 0, 0), (.aload_n 1, 26, 0, 0, 0), (.iload_n 2, 27, 0, 0, 0), (.iload 4, 28, 0, 0, 0), (.invokevirtual 50, 30, 88, 2, 4213), (.imul, 33, 0, 0, 0), (.iadd, 34, 0, 0, 0), (.invokestatic 22, 35, 8, 3, 259), (.iinc 4 1, 38, 0, 0, 0), (.goto (-38), 41, 0, 0, 0)], 44),
  (44, [false, false, false, false, false], [(.return_, 44, 0, 0, 0)], 45)]
def z_md_133 : z_Md := (false, [], (fun t => z_B_133.lookup t), 5)
set_option maxRecDepth 100000 in
theorem z_gm_133 {mt : Nat → z_Md} (h : mt 133 = z_md_133) : z_gm z_mi mt 133 := z_okB_ok (o := 12) (vp := 0) (md := (false, [], 5)) (bl := z_B_133) h (fun z => absurd rfl z) (by decide +kernel)
/-- LacedHoles$Weeks.judgeRow(I)V -/
def z_B_134 : z_Bk := [(0, [true, true, false, false], [(.iconst 0, 0, 0, 0, 0), (.istore_n 2, 1, 0, 0, 0), (.iconst 0, 2, 0, 0, 0), (.istore_n 3, 3, 0, 0, 0)], 4),
  (4, [true, true, true, true], [(.iload_n 3, 4, 0, 0, 0), (.bipush 12, 5, 0, 0, 0), (.if_icmp .ge 22, 7, 0, 0, 0), (.iload_n 2, 10, 0, 0, 0), (.aload_n 0, 11, 0, 0, 0), (.getfield 9, 12, 9, 0, 41), (.iload_n 3, 15, 0, 0, 0), (.invokestatic 46, 16, 7, 2, 262), (.invokestatic 54, 19, 4, 2, 265), (.istore_n 2, 22, 0, 0, 0), (.iinc 3 1, 23, 0, 0, 0), (.goto (-22), 26, 0, 0, 0)], 29),
  (29, [true, true, true, false], [(.iload_n 2, 29, 0, 0, 0), (.aload_n 0, 30, 0, 0, 0), (.getfield 15, 31, 9, 1, 42), (.if_icmp .ge 13, 34, 0, 0, 0), (.aload_n 0, 37, 0, 0, 0), (.iload_n 2, 38, 0, 0, 0), (.putfield 15, 39, 9, 1, 42), (.aload_n 0, 42, 0, 0, 0), (.iload_n 1, 43, 0, 0, 0), (.putfield 19, 44, 9, 2, 44)], 47),
  (47, [false, false, false, false], [(.return_, 47, 0, 0, 0)], 48)]
def z_md_134 : z_Md := (false, [], (fun t => z_B_134.lookup t), 4)
set_option maxRecDepth 100000 in
theorem z_gm_134 {mt : Nat → z_Md} (h : mt 134 = z_md_134) : z_gm z_mi mt 134 := z_okB_ok (o := 12) (vp := 0) (md := (false, [], 4)) (bl := z_B_134) h (fun z => absurd rfl z) (by decide +kernel)
/-- LacedHoles.<init>()V -/
def z_B_135 : z_Bk := [(0, [true, false], [(.aload_n 0, 0, 0, 0, 0), (.invokespecial 1, 1, 999, 0, 0), (.aload_n 0, 4, 0, 0, 0), (.new 7, 5, 6, 0, 1), (.dup, 8, 0, 0, 0), (.invokespecial 9, 9, 11, 0, 1), (.putfield 10, 12, 10, 0, 72), (.aload_n 0, 15, 0, 0, 0), (.new 16, 16, 4, 0, 2), (.dup, 19, 0, 0, 0), (.invokespecial 18, 20, 48, 0, 2), (.putfield 19, 23, 10, 1, 73), (.aload_n 0, 26, 0, 0, 0), (.new 23, 27, 1, 0, 3), (.dup, 30, 0, 0, 0), (.invokespecial 25, 31, 90, 0, 3), (.putfield 26, 34, 10, 2, 74), (.aload_n 0, 37, 0, 0, 0), (.new 30, 38, 2, 0, 4), (.dup, 41, 0, 0, 0), (.invokespecial 32, 42, 106, 0, 4), (.putfield 33, 45, 10, 3, 75), (.aload_n 0, 48, 0, 0, 0), (.new 37, 49, 7, 0, 5), (.dup, 52, 0, 0, 0), (.invokespecial 39, 53, 122, 0, 5), (.putfield 40, 56, 10, 4, 76), (.aload_n 0, 59, 0, 0, 0), (.new 44, 60, 9, 0, 8), (.dup, 63, 0, 0, 0), (.invokespecial 46, 64, 130, 0, 8), (.putfield 47, 67, 10, 5, 77), (.aload_n 0, 70, 0, 0, 0), (.new 51, 71, 8, 0, 9), (.dup, 74, 0, 0, 0), (.invokespecial 53, 75, 61, 0, 9), (.putfield 54, 78, 10, 6, 78), (.aload_n 0, 81, 0, 0, 0), (.new 58, 82, 5, 0, 10), (.dup, 85, 0, 0, 0), (.invokespecial 60, 86, 85, 0, 10), (.putfield 61, 89, 10, 7, 79), (.aload_n 0, 92, 0, 0, 0), (.iconst 3, 93, 0, 0, 0), (.anewarray 58, 94, 0, 0, 10), (.putfield 65, 97, 10, 8, 80), (.aload_n 0, 100, 0, 0, 0), (.new 69, 101, 0, 0, 13), (.dup, 104, 0, 0, 0), (.invokespecial 71, 105, 32, 0, 13), (.putfield 72, 108, 10, 9, 81), (.aload_n 0, 111, 0, 0, 0), (.new 69, 112, 0, 0, 13), (.dup, 115, 0, 0, 0), (.invokespecial 71, 116, 32, 0, 13), (.putfield 76, 119, 10, 10, 82), (.aload_n 0, 122, 0, 0, 0), (.iconst 0, 123, 0, 0, 0), (.putfield 79, 124, 10, 11, 83), (.aload_n 0, 127, 0, 0, 0), (.iconst (-1), 128, 0, 0, 0), (.putfield 83, 129, 10, 12, 84), (.iconst 0, 132, 0, 0, 0), (.istore_n 1, 133, 0, 0, 0)], 134),
  (134, [true, true], [(.iload_n 1, 134, 0, 0, 0), (.aload_n 0, 135, 0, 0, 0), (.getfield 65, 136, 10, 8, 80), (.arraylength, 139, 0, 0, 0), (.if_icmp .ge 22, 140, 0, 0, 0), (.aload_n 0, 143, 0, 0, 0), (.getfield 65, 144, 10, 8, 80), (.iload_n 1, 147, 0, 0, 0), (.new 58, 148, 5, 0, 10), (.dup, 151, 0, 0, 0), (.invokespecial 60, 152, 85, 0, 10), (.aastore, 155, 0, 0, 0), (.iinc 1 1, 156, 0, 0, 0), (.goto (-25), 159, 0, 0, 0)], 162),
  (162, [true, false], [(.aload_n 0, 162, 0, 0, 0), (.getfield 19, 163, 10, 1, 73), (.aload_n 0, 166, 0, 0, 0), (.getfield 72, 167, 10, 9, 81), (.getfield 86, 170, 0, 2, 60), (.aload_n 0, 173, 0, 0, 0), (.getfield 72, 174, 10, 9, 81), (.getfield 89, 177, 0, 3, 62), (.invokevirtual 92, 180, 49, 2, 228), (.return_, 183, 0, 0, 0)], 184)]
def z_md_135 : z_Md := (false, [], (fun t => z_B_135.lookup t), 2)
set_option maxRecDepth 100000 in
theorem z_gm_135 {mt : Nat → z_Md} (h : mt 135 = z_md_135) : z_gm z_mi mt 135 := z_okB_ok (o := 13) (vp := 0) (md := (false, [], 2)) (bl := z_B_135) h (fun z => absurd rfl z) (by decide +kernel)
/-- LacedHoles.feed(IIIII)I -/
def z_B_136 : z_Bk := [(0, [true, true, true, true, true, true], [(.aload_n 0, 0, 0, 0, 0), (.getfield 10, 1, 10, 0, 72), (.invokevirtual 96, 4, 12, 0, 310), (.ifCond .ne 5, 7, 0, 0, 0), (.iconst (-1), 10, 0, 0, 0), (.ireturn, 11, 0, 0, 0)], 12),
  (12, [true, true, true, true, true, true], [(.aload_n 0, 12, 0, 0, 0), (.getfield 10, 13, 10, 0, 72), (.iload_n 1, 16, 0, 0, 0), (.invokevirtual 100, 17, 13, 1, 326), (.aload_n 0, 20, 0, 0, 0), (.getfield 10, 21, 10, 0, 72), (.iload_n 2, 24, 0, 0, 0), (.invokevirtual 100, 25, 13, 1, 326), (.aload_n 0, 28, 0, 0, 0), (.getfield 10, 29, 10, 0, 72), (.iload_n 3, 32, 0, 0, 0), (.invokevirtual 100, 33, 13, 1, 326), (.aload_n 0, 36, 0, 0, 0), (.getfield 10, 37, 10, 0, 72), (.iload 4, 40, 0, 0, 0), (.invokevirtual 100, 42, 13, 1, 326), (.aload_n 0, 45, 0, 0, 0), (.getfield 10, 46, 10, 0, 72), (.iload 5, 49, 0, 0, 0), (.invokevirtual 100, 51, 13, 1, 326), (.aload_n 0, 54, 0, 0, 0), (.getfield 10, 55, 10, 0, 72), (.invokevirtual 104, 58, 14, 0, 358), (.ireturn, 61, 0, 0, 0)], 62)]
def z_md_136 : z_Md := (false, [], (fun t => z_B_136.lookup t), 6)
set_option maxRecDepth 100000 in
theorem z_gm_136 {mt : Nat → z_Md} (h : mt 136 = z_md_136) : z_gm z_mi mt 136 := z_okB_ok (o := 13) (vp := 0) (md := (false, [], 6)) (bl := z_B_136) h (fun z => absurd rfl z) (by decide +kernel)
/-- LacedHoles.boot(I)I -/
def z_B_137 : z_Bk := [(0, [true, true, false], [(.iload_n 1, 0, 0, 0, 0), (.ifCond .lt 14, 1, 0, 0, 0), (.iload_n 1, 4, 0, 0, 0), (.aload_n 0, 5, 0, 0, 0), (.getfield 10, 6, 10, 0, 72), (.invokevirtual 104, 9, 14, 0, 358), (.if_icmp .le 13, 12, 0, 0, 0)], 15),
  (15, [false, false, false], [(.new 108, 15, 60, 0, 0)], 18),
  (25, [true, true, false], [(.aload_n 0, 25, 0, 0, 0), (.getfield 10, 26, 10, 0, 72), (.iload_n 1, 29, 0, 0, 0), (.invokevirtual 115, 30, 16, 1, 2278), (.aload_n 0, 33, 0, 0, 0), (.getfield 76, 34, 10, 10, 82), (.aload_n 0, 37, 0, 0, 0), (.getfield 10, 38, 10, 0, 72), (.invokevirtual 118, 41, 34, 1, 2288), (.aload_n 0, 44, 0, 0, 0), (.getfield 10, 45, 10, 0, 72), (.invokevirtual 122, 48, 15, 0, 2646), (.aload_n 0, 51, 0, 0, 0), (.aload_n 0, 52, 0, 0, 0), (.getfield 10, 53, 10, 0, 72), (.invokevirtual 125, 56, 19, 0, 2662), (.putfield 83, 59, 10, 12, 84), (.aload_n 0, 62, 0, 0, 0), (.getfield 10, 63, 10, 0, 72), (.invokevirtual 127, 66, 17, 0, 2678), (.ifCond .eq 14, 69, 0, 0, 0), (.aload_n 0, 72, 0, 0, 0), (.getfield 10, 73, 10, 0, 72), (.invokevirtual 130, 76, 18, 0, 2694), (.bipush 10, 79, 0, 0, 0), (.isub, 81, 0, 0, 0), (.ireturn, 82, 0, 0, 0)], 83),
  (83, [true, false, false], [(.aload_n 0, 83, 0, 0, 0), (.getfield 72, 84, 10, 9, 81), (.astore_n 2, 87, 0, 0, 0), (.aload_n 0, 88, 0, 0, 0), (.aload_n 0, 89, 0, 0, 0), (.getfield 76, 90, 10, 10, 82), (.putfield 72, 93, 10, 9, 81), (.aload_n 0, 96, 0, 0, 0), (.aload_n 2, 97, 0, 0, 0), (.putfield 76, 98, 10, 10, 82), (.aload_n 0, 101, 0, 0, 0), (.getfield 19, 102, 10, 1, 73), (.aload_n 0, 105, 0, 0, 0), (.getfield 72, 106, 10, 9, 81), (.getfield 86, 109, 0, 2, 60), (.aload_n 0, 112, 0, 0, 0), (.getfield 72, 113, 10, 9, 81), (.getfield 89, 116, 0, 3, 62), (.invokevirtual 92, 119, 49, 2, 228), (.aload_n 0, 122, 0, 0, 0), (.getfield 33, 123, 10, 3, 75), (.invokevirtual 133, 126, 107, 0, 2706), (.aload_n 0, 129, 0, 0, 0), (.getfield 61, 130, 10, 7, 79), (.invokevirtual 136, 133, 86, 0, 2725), (.aload_n 0, 136, 0, 0, 0), (.iconst 0, 137, 0, 0, 0), (.putfield 79, 138, 10, 11, 83), (.aload_n 0, 141, 0, 0, 0), (.getfield 72, 142, 10, 9, 81), (.invokevirtual 139, 145, 41, 0, 944), (.invokestatic 142, 148, 1, 1, 60), (.ireturn, 151, 0, 0, 0)], 152)]
def z_md_137 : z_Md := (false, [], (fun t => z_B_137.lookup t), 3)
set_option maxRecDepth 100000 in
theorem z_gm_137 {mt : Nat → z_Md} (h : mt 137 = z_md_137) : z_gm z_mi mt 137 := z_okB_ok (o := 13) (vp := 0) (md := (false, [], 3)) (bl := z_B_137) h (fun z => absurd rfl z) (by decide +kernel)
/-- LacedHoles.way(I)I -/
def z_B_138 : z_Bk := [(0, [true, true], [(.iload_n 1, 0, 0, 0, 0), (.ifCond .lt 20, 1, 0, 0, 0), (.iload_n 1, 4, 0, 0, 0), (.aload_n 0, 5, 0, 0, 0), (.getfield 10, 6, 10, 0, 72), (.invokevirtual 104, 9, 14, 0, 358), (.if_icmp .gt 9, 12, 0, 0, 0), (.iload_n 1, 15, 0, 0, 0), (.bipush 100, 16, 0, 0, 0), (.if_icmp .le 13, 18, 0, 0, 0)], 21),
  (21, [false, false], [(.new 108, 21, 60, 0, 1)], 24),
  (31, [true, true], [(.aload_n 0, 31, 0, 0, 0), (.getfield 10, 32, 10, 0, 72), (.iload_n 1, 35, 0, 0, 0), (.invokevirtual 115, 36, 16, 1, 2278), (.aload_n 0, 39, 0, 0, 0), (.getfield 54, 40, 10, 6, 78), (.aload_n 0, 43, 0, 0, 0), (.getfield 10, 44, 10, 0, 72), (.aload_n 0, 47, 0, 0, 0), (.getfield 72, 48, 10, 9, 81), (.invokevirtual 148, 51, 69, 2, 2808), (.aload_n 0, 54, 0, 0, 0), (.getfield 10, 55, 10, 0, 72), (.invokevirtual 122, 58, 15, 0, 2646), (.aload_n 0, 61, 0, 0, 0), (.aload_n 0, 62, 0, 0, 0), (.getfield 10, 63, 10, 0, 72), (.invokevirtual 125, 66, 19, 0, 2662), (.putfield 83, 69, 10, 12, 84), (.aload_n 0, 72, 0, 0, 0), (.getfield 10, 73, 10, 0, 72), (.invokevirtual 127, 76, 17, 0, 2678), (.ifCond .eq 14, 79, 0, 0, 0), (.aload_n 0, 82, 0, 0, 0), (.getfield 10, 83, 10, 0, 72), (.invokevirtual 130, 86, 18, 0, 2694), (.bipush 10, 89, 0, 0, 0), (.isub, 91, 0, 0, 0), (.ireturn, 92, 0, 0, 0)], 93),
  (93, [true, false], [(.aload_n 0, 93, 0, 0, 0), (.invokevirtual 151, 94, 173, 0, 1674), (.ireturn, 97, 0, 0, 0)], 98)]
def z_md_138 : z_Md := (false, [], (fun t => z_B_138.lookup t), 2)
set_option maxRecDepth 100000 in
theorem z_gm_138 {mt : Nat → z_Md} (h : mt 138 = z_md_138) : z_gm z_mi mt 138 := z_okB_ok (o := 13) (vp := 0) (md := (false, [], 2)) (bl := z_B_138) h (fun z => absurd rfl z) (by decide +kernel)
/-- LacedHoles.fault()I -/
def z_B_139 : z_Bk := [(0, [true], [(.aload_n 0, 0, 0, 0, 0), (.getfield 83, 1, 10, 12, 84), (.ireturn, 4, 0, 0, 0)], 5)]
def z_md_139 : z_Md := (false, [], (fun t => z_B_139.lookup t), 1)
set_option maxRecDepth 100000 in
theorem z_gm_139 {mt : Nat → z_Md} (h : mt 139 = z_md_139) : z_gm z_mi mt 139 := z_okB_ok (o := 13) (vp := 0) (md := (false, [], 1)) (bl := z_B_139) h (fun z => absurd rfl z) (by decide +kernel)
/-- LacedHoles.told(I)I -/
def z_B_140 : z_Bk := [(0, [true, true], [(.iload_n 1, 0, 0, 0, 0), (.tableswitch 114 0 7 #[47, 55, 63, 71, 79, 87, 95, 103], 1, 0, 0, 0)], 2),
  (48, [true, false], [(.aload_n 0, 48, 0, 0, 0), (.getfield 72, 49, 10, 9, 81), (.getfield 154, 52, 0, 0, 55), (.ireturn, 55, 0, 0, 0)], 56),
  (56, [true, false], [(.aload_n 0, 56, 0, 0, 0), (.getfield 72, 57, 10, 9, 81), (.getfield 157, 60, 0, 1, 58), (.ireturn, 63, 0, 0, 0)], 64),
  (64, [true, false], [(.aload_n 0, 64, 0, 0, 0), (.getfield 72, 65, 10, 9, 81), (.getfield 86, 68, 0, 2, 60), (.ireturn, 71, 0, 0, 0)], 72),
  (72, [true, false], [(.aload_n 0, 72, 0, 0, 0), (.getfield 72, 73, 10, 9, 81), (.getfield 89, 76, 0, 3, 62), (.ireturn, 79, 0, 0, 0)], 80),
  (80, [true, false], [(.aload_n 0, 80, 0, 0, 0), (.getfield 72, 81, 10, 9, 81), (.getfield 160, 84, 0, 5, 68), (.ireturn, 87, 0, 0, 0)], 88),
  (88, [true, false], [(.aload_n 0, 88, 0, 0, 0), (.getfield 72, 89, 10, 9, 81), (.getfield 163, 92, 0, 6, 71), (.ireturn, 95, 0, 0, 0)], 96),
  (96, [true, false], [(.aload_n 0, 96, 0, 0, 0), (.getfield 72, 97, 10, 9, 81), (.getfield 166, 100, 0, 4, 64), (.ireturn, 103, 0, 0, 0)], 104),
  (104, [true, false], [(.aload_n 0, 104, 0, 0, 0), (.getfield 61, 105, 10, 7, 79), (.getfield 169, 108, 5, 0, 47), (.getfield 172, 111, 8, 1, 27), (.ireturn, 114, 0, 0, 0)], 115),
  (115, [false, false], [(.new 108, 115, 60, 0, 2)], 118)]
def z_md_140 : z_Md := (false, [], (fun t => z_B_140.lookup t), 2)
set_option maxRecDepth 100000 in
theorem z_gm_140 {mt : Nat → z_Md} (h : mt 140 = z_md_140) : z_gm z_mi mt 140 := z_okB_ok (o := 13) (vp := 0) (md := (false, [], 2)) (bl := z_B_140) h (fun z => absurd rfl z) (by decide +kernel)
/-- LacedHoles.span(II)I -/
def z_B_141 : z_Bk := [(0, [true, true, true], [(.aload_n 0, 0, 0, 0, 0), (.iload_n 1, 1, 0, 0, 0), (.invokevirtual 176, 2, 170, 1, 3018), (.aload_n 0, 5, 0, 0, 0), (.iload_n 2, 6, 0, 0, 0), (.invokevirtual 176, 7, 170, 1, 3018), (.iload_n 1, 10, 0, 0, 0), (.iload_n 2, 11, 0, 0, 0), (.if_icmp .ne 13, 12, 0, 0, 0), (.new 108, 15, 60, 0, 3)], 18),
  (25, [true, true, true], [(.aload_n 0, 25, 0, 0, 0), (.getfield 19, 26, 10, 1, 73), (.aload_n 0, 29, 0, 0, 0), (.getfield 72, 30, 10, 9, 81), (.iload_n 1, 33, 0, 0, 0), (.iload_n 2, 34, 0, 0, 0), (.invokevirtual 181, 35, 52, 3, 3044), (.invokestatic 185, 38, 58, 1, 66), (.ireturn, 41, 0, 0, 0)], 42)]
def z_md_141 : z_Md := (false, [], (fun t => z_B_141.lookup t), 3)
set_option maxRecDepth 100000 in
theorem z_gm_141 {mt : Nat → z_Md} (h : mt 141 = z_md_141) : z_gm z_mi mt 141 := z_okB_ok (o := 13) (vp := 0) (md := (false, [], 3)) (bl := z_B_141) h (fun z => absurd rfl z) (by decide +kernel)
/-- LacedHoles.at(I)I -/
def z_B_142 : z_Bk := [(0, [true, true], [(.iload_n 1, 0, 0, 0, 0), (.ifCond .lt 31, 1, 0, 0, 0), (.iload_n 1, 4, 0, 0, 0), (.aload_n 0, 5, 0, 0, 0), (.getfield 61, 6, 10, 7, 79), (.getfield 169, 9, 5, 0, 47), (.getfield 172, 12, 8, 1, 27), (.if_icmp .ge 17, 15, 0, 0, 0), (.aload_n 0, 18, 0, 0, 0), (.getfield 61, 19, 10, 7, 79), (.getfield 169, 22, 5, 0, 47), (.iload_n 1, 25, 0, 0, 0), (.invokevirtual 189, 26, 65, 1, 408), (.goto 4, 29, 0, 0, 0)], 32),
  (32, [false, false], [(.iconst (-1), 32, 0, 0, 0)], 33),
  (33, [false, false], [(.ireturn, 33, 0, 0, 0)], 34)]
def z_md_142 : z_Md := (false, [], (fun t => z_B_142.lookup t), 2)
set_option maxRecDepth 100000 in
theorem z_gm_142 {mt : Nat → z_Md} (h : mt 142 = z_md_142) : z_gm z_mi mt 142 := z_okB_ok (o := 13) (vp := 0) (md := (false, [], 2)) (bl := z_B_142) h (fun z => absurd rfl z) (by decide +kernel)
/-- LacedHoles.judge()I -/
def z_B_143 : z_Bk := [(0, [true], [(.aload_n 0, 0, 0, 0, 0), (.invokevirtual 192, 1, 171, 0, 3098), (.aload_n 0, 4, 0, 0, 0), (.getfield 61, 5, 10, 7, 79), (.getfield 169, 8, 5, 0, 47), (.aload_n 0, 11, 0, 0, 0), (.getfield 72, 12, 10, 9, 81), (.invokevirtual 195, 15, 72, 1, 3112), (.ireturn, 18, 0, 0, 0)], 19)]
def z_md_143 : z_Md := (false, [], (fun t => z_B_143.lookup t), 1)
set_option maxRecDepth 100000 in
theorem z_gm_143 {mt : Nat → z_Md} (h : mt 143 = z_md_143) : z_gm z_mi mt 143 := z_okB_ok (o := 13) (vp := 0) (md := (false, [], 1)) (bl := z_B_143) h (fun z => absurd rfl z) (by decide +kernel)
/-- LacedHoles.measure(I)I -/
def z_B_144 : z_Bk := [(0, [true, true], [(.aload_n 0, 0, 0, 0, 0), (.invokevirtual 192, 1, 171, 0, 3098), (.iload_n 1, 4, 0, 0, 0), (.tableswitch 146 0 4 #[35, 57, 79, 94, 109], 5, 0, 0, 0)], 6),
  (40, [true, false], [(.aload_n 0, 40, 0, 0, 0), (.getfield 19, 41, 10, 1, 73), (.aload_n 0, 44, 0, 0, 0), (.getfield 72, 45, 10, 9, 81), (.aload_n 0, 48, 0, 0, 0), (.getfield 61, 49, 10, 7, 79), (.getfield 169, 52, 5, 0, 47), (.invokevirtual 199, 55, 54, 2, 3204), (.invokestatic 185, 58, 58, 1, 66), (.ireturn, 61, 0, 0, 0)], 62),
  (62, [true, false], [(.aload_n 0, 62, 0, 0, 0), (.getfield 19, 63, 10, 1, 73), (.aload_n 0, 66, 0, 0, 0), (.getfield 72, 67, 10, 9, 81), (.aload_n 0, 70, 0, 0, 0), (.getfield 61, 71, 10, 7, 79), (.getfield 169, 74, 5, 0, 47), (.invokevirtual 203, 77, 55, 2, 3252), (.invokestatic 206, 80, 59, 1, 205), (.ireturn, 83, 0, 0, 0)], 84),
  (84, [true, false], [(.aload_n 0, 84, 0, 0, 0), (.getfield 61, 85, 10, 7, 79), (.getfield 169, 88, 5, 0, 47), (.aload_n 0, 91, 0, 0, 0), (.getfield 72, 92, 10, 9, 81), (.invokevirtual 209, 95, 73, 1, 3304), (.ireturn, 98, 0, 0, 0)], 99),
  (99, [true, false], [(.aload_n 0, 99, 0, 0, 0), (.getfield 61, 100, 10, 7, 79), (.getfield 169, 103, 5, 0, 47), (.aload_n 0, 106, 0, 0, 0), (.getfield 72, 107, 10, 9, 81), (.invokevirtual 212, 110, 74, 1, 3320), (.ireturn, 113, 0, 0, 0)], 114),
  (114, [true, false], [(.aload_n 0, 114, 0, 0, 0), (.getfield 19, 115, 10, 1, 73), (.aload_n 0, 118, 0, 0, 0), (.getfield 72, 119, 10, 9, 81), (.aload_n 0, 122, 0, 0, 0), (.getfield 61, 123, 10, 7, 79), (.getfield 169, 126, 5, 0, 47), (.invokevirtual 199, 129, 54, 2, 3204), (.aload_n 0, 132, 0, 0, 0), (.getfield 72, 133, 10, 9, 81), (.getfield 163, 136, 0, 6, 71), (.invokestatic 215, 139, 57, 2, 63), (.ifCond .eq 7, 142, 0, 0, 0), (.iconst 1, 145, 0, 0, 0), (.goto 4, 146, 0, 0, 0)], 149),
  (149, [false, false], [(.iconst 0, 149, 0, 0, 0)], 150),
  (150, [false, false], [(.ireturn, 150, 0, 0, 0)], 151),
  (151, [false, false], [(.new 108, 151, 60, 0, 4)], 154)]
def z_md_144 : z_Md := (false, [], (fun t => z_B_144.lookup t), 2)
set_option maxRecDepth 100000 in
theorem z_gm_144 {mt : Nat → z_Md} (h : mt 144 = z_md_144) : z_gm z_mi mt 144 := z_okB_ok (o := 13) (vp := 0) (md := (false, [], 2)) (bl := z_B_144) h (fun z => absurd rfl z) (by decide +kernel)
/-- LacedHoles.number()J -/
def z_B_145 : z_Bk := [(0, [true], [(.aload_n 0, 0, 0, 0, 0), (.invokevirtual 192, 1, 171, 0, 3098), (.aload_n 0, 4, 0, 0, 0), (.getfield 61, 5, 10, 7, 79), (.getfield 169, 8, 5, 0, 47), (.aload_n 0, 11, 0, 0, 0), (.getfield 72, 12, 10, 9, 81), (.invokevirtual 195, 15, 72, 1, 3112), (.iconst (-1), 18, 0, 0, 0), (.if_icmp .eq 7, 19, 0, 0, 0), (.ldc2_w 221, 22, 0, 10, (-1)), (.lreturn, 25, 0, 0, 0)], 26),
  (26, [true], [(.aload_n 0, 26, 0, 0, 0), (.getfield 54, 27, 10, 6, 78), (.aload_n 0, 30, 0, 0, 0), (.getfield 61, 31, 10, 7, 79), (.getfield 169, 34, 5, 0, 47), (.invokevirtual 223, 37, 70, 1, 3368), (.aload_n 0, 40, 0, 0, 0), (.getfield 26, 41, 10, 2, 74), (.aload_n 0, 44, 0, 0, 0), (.getfield 72, 45, 10, 9, 81), (.aload_n 0, 48, 0, 0, 0), (.getfield 54, 49, 10, 6, 78), (.invokevirtual 227, 52, 92, 2, 3377), (.lreturn, 55, 0, 0, 0)], 56)]
def z_md_145 : z_Md := (false, [], (fun t => z_B_145.lookup t), 1)
set_option maxRecDepth 100000 in
theorem z_gm_145 {mt : Nat → z_Md} (h : mt 145 = z_md_145) : z_gm z_mi mt 145 := z_okB_ok (o := 13) (vp := 0) (md := (false, [], 1)) (bl := z_B_145) h (fun z => absurd rfl z) (by decide +kernel)
/-- LacedHoles.count(I)J -/
def z_B_146 : z_Bk := [(0, [true, true], [(.aload_n 0, 0, 0, 0, 0), (.iload_n 1, 1, 0, 0, 0), (.invokevirtual 230, 2, 172, 1, 3450), (.aload_n 0, 5, 0, 0, 0), (.getfield 26, 6, 10, 2, 74), (.aload_n 0, 9, 0, 0, 0), (.getfield 72, 10, 10, 9, 81), (.iload_n 1, 13, 0, 0, 0), (.invokevirtual 233, 14, 91, 2, 1729), (.lreturn, 17, 0, 0, 0)], 18)]
def z_md_146 : z_Md := (false, [], (fun t => z_B_146.lookup t), 2)
set_option maxRecDepth 100000 in
theorem z_gm_146 {mt : Nat → z_Md} (h : mt 146 = z_md_146) : z_gm z_mi mt 146 := z_okB_ok (o := 13) (vp := 0) (md := (false, [], 2)) (bl := z_B_146) h (fun z => absurd rfl z) (by decide +kernel)
/-- LacedHoles.take(IJ)I -/
def z_B_147 : z_Bk := [(0, [true, true, true, false], [(.aload_n 0, 0, 0, 0, 0), (.iload_n 1, 1, 0, 0, 0), (.invokevirtual 230, 2, 172, 1, 3450), (.aload_n 0, 5, 0, 0, 0), (.getfield 26, 6, 10, 2, 74), (.aload_n 0, 9, 0, 0, 0), (.getfield 72, 10, 10, 9, 81), (.iload_n 1, 13, 0, 0, 0), (.lload_n 2, 14, 0, 0, 0), (.aload_n 0, 15, 0, 0, 0), (.getfield 54, 16, 10, 6, 78), (.invokevirtual 237, 19, 93, 4, 2049), (.ifCond .eq 10, 22, 0, 0, 0), (.aload_n 0, 25, 0, 0, 0), (.invokevirtual 151, 26, 173, 0, 1674), (.goto 4, 29, 0, 0, 0)], 32),
  (32, [false, false, false, false], [(.iconst (-1), 32, 0, 0, 0)], 33),
  (33, [false, false, false, false], [(.ireturn, 33, 0, 0, 0)], 34)]
def z_md_147 : z_Md := (false, [], (fun t => z_B_147.lookup t), 4)
set_option maxRecDepth 100000 in
theorem z_gm_147 {mt : Nat → z_Md} (h : mt 147 = z_md_147) : z_gm z_mi mt 147 := z_okB_ok (o := 13) (vp := 0) (md := (false, [], 4)) (bl := z_B_147) h (fun z => absurd rfl z) (by decide +kernel)
/-- LacedHoles.best(II)I -/
def z_B_148 : z_Bk := [(0, [true, true, true], [(.aload_n 0, 0, 0, 0, 0), (.iload_n 1, 1, 0, 0, 0), (.invokevirtual 230, 2, 172, 1, 3450), (.iload_n 2, 5, 0, 0, 0), (.ifCond .eq 23, 6, 0, 0, 0), (.iload_n 2, 9, 0, 0, 0), (.iconst 1, 10, 0, 0, 0), (.if_icmp .eq 18, 11, 0, 0, 0), (.iload_n 2, 14, 0, 0, 0), (.iconst 2, 15, 0, 0, 0), (.if_icmp .eq 13, 16, 0, 0, 0), (.new 108, 19, 60, 0, 5)], 22),
  (29, [true, true, true], [(.aload_n 0, 29, 0, 0, 0), (.getfield 33, 30, 10, 3, 75), (.aload_n 0, 33, 0, 0, 0), (.getfield 72, 34, 10, 9, 81), (.aload_n 0, 37, 0, 0, 0), (.getfield 19, 38, 10, 1, 73), (.iload_n 1, 41, 0, 0, 0), (.iload_n 2, 42, 0, 0, 0), (.invokevirtual 243, 43, 108, 4, 3522), (.aload_n 0, 46, 0, 0, 0), (.getfield 33, 47, 10, 3, 75), (.aload_n 0, 50, 0, 0, 0), (.getfield 72, 51, 10, 9, 81), (.iload_n 1, 54, 0, 0, 0), (.aload_n 0, 55, 0, 0, 0), (.getfield 54, 56, 10, 6, 78), (.invokevirtual 247, 59, 120, 3, 3538), (.ifCond .ne 5, 62, 0, 0, 0), (.iconst (-1), 65, 0, 0, 0), (.ireturn, 66, 0, 0, 0)], 67),
  (67, [true, false, true], [(.aload_n 0, 67, 0, 0, 0), (.invokevirtual 151, 68, 173, 0, 1674), (.pop, 71, 0, 0, 0), (.iload_n 2, 72, 0, 0, 0), (.iconst 2, 73, 0, 0, 0), (.if_icmp .ne 27, 74, 0, 0, 0), (.aload_n 0, 77, 0, 0, 0), (.getfield 19, 78, 10, 1, 73), (.aload_n 0, 81, 0, 0, 0), (.getfield 72, 82, 10, 9, 81), (.aload_n 0, 85, 0, 0, 0), (.getfield 61, 86, 10, 7, 79), (.getfield 169, 89, 5, 0, 47), (.invokevirtual 203, 92, 55, 2, 3252), (.invokestatic 206, 95, 59, 1, 205), (.goto 24, 98, 0, 0, 0)], 101),
  (101, [true, false, false], [(.aload_n 0, 101, 0, 0, 0), (.getfield 19, 102, 10, 1, 73), (.aload_n 0, 105, 0, 0, 0), (.getfield 72, 106, 10, 9, 81), (.aload_n 0, 109, 0, 0, 0), (.getfield 61, 110, 10, 7, 79), (.getfield 169, 113, 5, 0, 47), (.invokevirtual 199, 116, 54, 2, 3204), (.invokestatic 185, 119, 58, 1, 66)], 122),
  (122, [false, false, false], [(.ireturn, 122, 0, 0, 0)], 123)]
def z_md_148 : z_Md := (false, [], (fun t => z_B_148.lookup t), 3)
set_option maxRecDepth 100000 in
theorem z_gm_148 {mt : Nat → z_Md} (h : mt 148 = z_md_148) : z_gm z_mi mt 148 := z_okB_ok (o := 13) (vp := 0) (md := (false, [], 3)) (bl := z_B_148) h (fun z => absurd rfl z) (by decide +kernel)
/-- LacedHoles.against()I -/
def z_B_149 : z_Bk := [(0, [true, false, false, false, false], [(.aload_n 0, 0, 0, 0, 0), (.invokevirtual 192, 1, 171, 0, 3098), (.aload_n 0, 4, 0, 0, 0), (.getfield 33, 5, 10, 3, 75), (.aload_n 0, 8, 0, 0, 0), (.getfield 72, 9, 10, 9, 81), (.aload_n 0, 12, 0, 0, 0), (.getfield 19, 13, 10, 1, 73), (.invokevirtual 251, 16, 109, 2, 466), (.aload_n 0, 19, 0, 0, 0), (.getfield 33, 20, 10, 3, 75), (.aload_n 0, 23, 0, 0, 0), (.getfield 61, 24, 10, 7, 79), (.getfield 169, 27, 5, 0, 47), (.invokevirtual 255, 30, 67, 0, 3672), (.invokevirtual 258, 33, 110, 1, 994), (.lstore_n 1, 36, 0, 0, 0), (.lload_n 1, 37, 0, 0, 0), (.ldc2_w 262, 38, 0, 4, 9223372036854775807), (.lcmp, 41, 0, 0, 0), (.ifCond .ne 5, 42, 0, 0, 0), (.iconst (-1), 45, 0, 0, 0), (.ireturn, 46, 0, 0, 0)], 47),
  (47, [true, true, false, false, false], [(.aload_n 0, 47, 0, 0, 0), (.getfield 19, 48, 10, 1, 73), (.aload_n 0, 51, 0, 0, 0), (.getfield 72, 52, 10, 9, 81), (.aload_n 0, 55, 0, 0, 0), (.getfield 61, 56, 10, 7, 79), (.getfield 169, 59, 5, 0, 47), (.invokevirtual 199, 62, 54, 2, 3204), (.lstore_n 3, 65, 0, 0, 0), (.lload_n 3, 66, 0, 0, 0), (.lload_n 1, 67, 0, 0, 0), (.invokestatic 264, 68, 56, 2, 94), (.ifCond .eq 6, 71, 0, 0, 0), (.bipush (-2), 74, 0, 0, 0), (.ireturn, 76, 0, 0, 0)], 77),
  (77, [false, true, false, true, false], [(.lload_n 1, 77, 0, 0, 0), (.lload_n 3, 78, 0, 0, 0), (.invokestatic 264, 79, 56, 2, 94), (.ifCond .eq 7, 82, 0, 0, 0), (.iconst 1, 85, 0, 0, 0), (.goto 4, 86, 0, 0, 0)], 89),
  (89, [false, false, false, false, false], [(.iconst 0, 89, 0, 0, 0)], 90),
  (90, [false, false, false, false, false], [(.ireturn, 90, 0, 0, 0)], 91)]
def z_md_149 : z_Md := (false, [], (fun t => z_B_149.lookup t), 5)
set_option maxRecDepth 100000 in
theorem z_gm_149 {mt : Nat → z_Md} (h : mt 149 = z_md_149) : z_gm z_mi mt 149 := z_okB_ok (o := 13) (vp := 0) (md := (false, [], 5)) (bl := z_B_149) h (fun z => absurd rfl z) (by decide +kernel)
/-- LacedHoles.leave()I -/
def z_B_150 : z_Bk := [(0, [true, false, false, false, false], [(.aload_n 0, 0, 0, 0, 0), (.getfield 33, 1, 10, 3, 75), (.aload_n 0, 4, 0, 0, 0), (.getfield 72, 5, 10, 9, 81), (.aload_n 0, 8, 0, 0, 0), (.getfield 19, 9, 10, 1, 73), (.invokevirtual 251, 12, 109, 2, 466), (.aload_n 0, 15, 0, 0, 0), (.getfield 72, 16, 10, 9, 81), (.invokevirtual 139, 19, 41, 0, 944), (.istore_n 1, 22, 0, 0, 0), (.iconst (-1), 23, 0, 0, 0), (.istore_n 2, 24, 0, 0, 0), (.iconst 0, 25, 0, 0, 0), (.istore_n 3, 26, 0, 0, 0)], 27),
  (27, [true, true, true, true, false], [(.iload_n 3, 27, 0, 0, 0), (.iload_n 1, 28, 0, 0, 0), (.if_icmp .gt 59, 29, 0, 0, 0), (.iload_n 2, 32, 0, 0, 0), (.iconst (-1), 33, 0, 0, 0), (.if_icmp .eq 14, 34, 0, 0, 0), (.iload_n 3, 37, 0, 0, 0), (.invokestatic 142, 38, 1, 1, 60), (.iload_n 2, 41, 0, 0, 0), (.invokestatic 142, 42, 1, 1, 60), (.if_icmp .ge 7, 45, 0, 0, 0)], 48),
  (48, [true, true, true, true, false], [(.iconst 1, 48, 0, 0, 0), (.goto 4, 49, 0, 0, 0)], 52),
  (52, [true, true, true, true, false], [(.iconst 0, 52, 0, 0, 0)], 53),
  (53, [true, true, true, true, false], [(.istore 4, 53, 0, 0, 0), (.iload_n 3, 55, 0, 0, 0), (.iload_n 1, 56, 0, 0, 0), (.iconst (-1), 57, 0, 0, 0), (.ixor, 58, 0, 0, 0), (.iand, 59, 0, 0, 0), (.ifCond .ne 22, 60, 0, 0, 0), (.iload 4, 63, 0, 0, 0), (.ifCond .eq 17, 65, 0, 0, 0), (.aload_n 0, 68, 0, 0, 0), (.iload_n 1, 69, 0, 0, 0), (.iload_n 3, 70, 0, 0, 0), (.iconst (-1), 71, 0, 0, 0), (.ixor, 72, 0, 0, 0), (.iand, 73, 0, 0, 0), (.invokevirtual 268, 74, 174, 1, 986), (.ifCond .eq 5, 77, 0, 0, 0), (.iload_n 3, 80, 0, 0, 0), (.istore_n 2, 81, 0, 0, 0)], 82),
  (82, [true, true, true, true, false], [(.iinc 3 1, 82, 0, 0, 0), (.goto (-58), 85, 0, 0, 0)], 88),
  (88, [false, false, true, false, false], [(.iload_n 2, 88, 0, 0, 0), (.ireturn, 89, 0, 0, 0)], 90)]
def z_md_150 : z_Md := (false, [], (fun t => z_B_150.lookup t), 5)
set_option maxRecDepth 100000 in
theorem z_gm_150 {mt : Nat → z_Md} (h : mt 150 = z_md_150) : z_gm z_mi mt 150 := z_okB_ok (o := 13) (vp := 0) (md := (false, [], 5)) (bl := z_B_150) h (fun z => absurd rfl z) (by decide +kernel)
/-- LacedHoles.tooShort()I -/
def z_B_151 : z_Bk := [(0, [true, false, false], [(.aload_n 0, 0, 0, 0, 0), (.getfield 33, 1, 10, 3, 75), (.aload_n 0, 4, 0, 0, 0), (.getfield 72, 5, 10, 9, 81), (.aload_n 0, 8, 0, 0, 0), (.getfield 19, 9, 10, 1, 73), (.invokevirtual 251, 12, 109, 2, 466), (.aload_n 0, 15, 0, 0, 0), (.getfield 33, 16, 10, 3, 75), (.aload_n 0, 19, 0, 0, 0), (.getfield 72, 20, 10, 9, 81), (.invokevirtual 139, 23, 41, 0, 944), (.invokevirtual 258, 26, 110, 1, 994), (.lstore_n 1, 29, 0, 0, 0), (.lload_n 1, 30, 0, 0, 0), (.ldc2_w 262, 31, 0, 4, 9223372036854775807), (.lcmp, 34, 0, 0, 0), (.ifCond .ne 5, 35, 0, 0, 0), (.iconst (-1), 38, 0, 0, 0), (.ireturn, 39, 0, 0, 0)], 40),
  (40, [true, true, false], [(.iconst 0, 40, 0, 0, 0), (.lload_n 1, 41, 0, 0, 0), (.invokestatic 185, 42, 58, 1, 66), (.sipush 1000, 45, 0, 0, 0), (.aload_n 0, 48, 0, 0, 0), (.getfield 72, 49, 10, 9, 81), (.getfield 163, 52, 0, 6, 71), (.imul, 55, 0, 0, 0), (.isub, 56, 0, 0, 0), (.invokestatic 272, 57, 4, 2, 67), (.ireturn, 60, 0, 0, 0)], 61)]
def z_md_151 : z_Md := (false, [], (fun t => z_B_151.lookup t), 3)
set_option maxRecDepth 100000 in
theorem z_gm_151 {mt : Nat → z_Md} (h : mt 151 = z_md_151) : z_gm z_mi mt 151 := z_okB_ok (o := 13) (vp := 0) (md := (false, [], 3)) (bl := z_B_151) h (fun z => absurd rfl z) (by decide +kernel)
/-- LacedHoles.alike()I -/
def z_B_152 : z_Bk := [(0, [true], [(.aload_n 0, 0, 0, 0, 0), (.getfield 72, 1, 10, 9, 81), (.invokevirtual 278, 4, 42, 0, 1104), (.ifCond .eq 15, 7, 0, 0, 0), (.aload_n 0, 10, 0, 0, 0), (.getfield 72, 11, 10, 9, 81), (.invokevirtual 281, 14, 38, 0, 1120), (.bipush 8, 17, 0, 0, 0), (.if_icmp .le 5, 19, 0, 0, 0)], 22),
  (22, [false], [(.iconst (-1), 22, 0, 0, 0), (.ireturn, 23, 0, 0, 0)], 24),
  (24, [true], [(.aload_n 0, 24, 0, 0, 0), (.getfield 72, 25, 10, 9, 81), (.invokevirtual 281, 28, 38, 0, 1120), (.iconst 3, 31, 0, 0, 0), (.if_icmp .ge 5, 32, 0, 0, 0), (.iconst 0, 35, 0, 0, 0), (.ireturn, 36, 0, 0, 0)], 37),
  (37, [true], [(.aload_n 0, 37, 0, 0, 0), (.getfield 40, 38, 10, 4, 76), (.aload_n 0, 41, 0, 0, 0), (.getfield 72, 42, 10, 9, 81), (.invokevirtual 284, 45, 123, 1, 1143), (.ireturn, 48, 0, 0, 0)], 49)]
def z_md_152 : z_Md := (false, [], (fun t => z_B_152.lookup t), 1)
set_option maxRecDepth 100000 in
theorem z_gm_152 {mt : Nat → z_Md} (h : mt 152 = z_md_152) : z_gm z_mi mt 152 := z_okB_ok (o := 13) (vp := 0) (md := (false, [], 1)) (bl := z_B_152) h (fun z => absurd rfl z) (by decide +kernel)
/-- LacedHoles.itself()I -/
def z_B_153 : z_Bk := [(0, [true], [(.aload_n 0, 0, 0, 0, 0), (.invokevirtual 192, 1, 171, 0, 3098), (.aload_n 0, 4, 0, 0, 0), (.getfield 72, 5, 10, 9, 81), (.invokevirtual 278, 8, 42, 0, 1104), (.ifCond .eq 20, 11, 0, 0, 0), (.aload_n 0, 14, 0, 0, 0), (.getfield 61, 15, 10, 7, 79), (.getfield 169, 18, 5, 0, 47), (.aload_n 0, 21, 0, 0, 0), (.getfield 72, 22, 10, 9, 81), (.invokevirtual 287, 25, 76, 1, 3720), (.goto 4, 28, 0, 0, 0)], 31),
  (31, [false], [(.iconst (-1), 31, 0, 0, 0)], 32),
  (32, [false], [(.ireturn, 32, 0, 0, 0)], 33)]
def z_md_153 : z_Md := (false, [], (fun t => z_B_153.lookup t), 1)
set_option maxRecDepth 100000 in
theorem z_gm_153 {mt : Nat → z_Md} (h : mt 153 = z_md_153) : z_gm z_mi mt 153 := z_okB_ok (o := 13) (vp := 0) (md := (false, [], 1)) (bl := z_B_153) h (fun z => absurd rfl z) (by decide +kernel)
/-- LacedHoles.two(I)I -/
def z_B_154 : z_Bk := [(0, [true, true, false, false], [(.iload_n 1, 0, 0, 0, 0), (.aload_n 0, 1, 0, 0, 0), (.getfield 72, 2, 10, 9, 81), (.invokevirtual 139, 5, 41, 0, 944), (.iconst (-1), 8, 0, 0, 0), (.ixor, 9, 0, 0, 0), (.iand, 10, 0, 0, 0), (.ifCond .eq 14, 11, 0, 0, 0), (.new 108, 14, 60, 0, 6)], 17),
  (25, [true, true, false, false], [(.aload_n 0, 25, 0, 0, 0), (.getfield 33, 26, 10, 3, 75), (.aload_n 0, 29, 0, 0, 0), (.getfield 72, 30, 10, 9, 81), (.aload_n 0, 33, 0, 0, 0), (.getfield 19, 34, 10, 1, 73), (.invokevirtual 251, 37, 109, 2, 466), (.aload_n 0, 40, 0, 0, 0), (.iload_n 1, 41, 0, 0, 0), (.invokevirtual 292, 42, 175, 1, 1498), (.lstore_n 2, 45, 0, 0, 0), (.lload_n 2, 46, 0, 0, 0), (.ldc2_w 262, 47, 0, 4, 9223372036854775807), (.lcmp, 50, 0, 0, 0), (.ifCond .ne 7, 51, 0, 0, 0), (.iconst (-1), 54, 0, 0, 0), (.goto 7, 55, 0, 0, 0)], 58),
  (58, [false, false, true, false], [(.lload_n 2, 58, 0, 0, 0), (.invokestatic 185, 59, 58, 1, 66)], 62),
  (62, [false, false, false, false], [(.ireturn, 62, 0, 0, 0)], 63)]
def z_md_154 : z_Md := (false, [], (fun t => z_B_154.lookup t), 4)
set_option maxRecDepth 100000 in
theorem z_gm_154 {mt : Nat → z_Md} (h : mt 154 = z_md_154) : z_gm z_mi mt 154 := z_okB_ok (o := 13) (vp := 0) (md := (false, [], 4)) (bl := z_B_154) h (fun z => absurd rfl z) (by decide +kernel)
/-- LacedHoles.colours()I -/
def z_B_155 : z_Bk := [(0, [true, false, false, false, false, false, false, false, false], [(.aload_n 0, 0, 0, 0, 0), (.getfield 33, 1, 10, 3, 75), (.aload_n 0, 4, 0, 0, 0), (.getfield 72, 5, 10, 9, 81), (.aload_n 0, 8, 0, 0, 0), (.getfield 19, 9, 10, 1, 73), (.invokevirtual 251, 12, 109, 2, 466), (.aload_n 0, 15, 0, 0, 0), (.getfield 72, 16, 10, 9, 81), (.invokevirtual 139, 19, 41, 0, 944), (.istore_n 1, 22, 0, 0, 0), (.iload_n 1, 23, 0, 0, 0), (.invokestatic 142, 24, 1, 1, 60), (.iconst 2, 27, 0, 0, 0), (.idiv, 28, 0, 0, 0), (.istore_n 2, 29, 0, 0, 0), (.iconst (-1), 30, 0, 0, 0), (.istore_n 3, 31, 0, 0, 0), (.ldc2_w 262, 32, 0, 4, 9223372036854775807), (.lstore 4, 35, 0, 0, 0), (.iconst 0, 37, 0, 0, 0), (.istore 6, 38, 0, 0, 0)], 40),
  (40, [true, true, true, true, true, false, true, false, false], [(.iload 6, 40, 0, 0, 0), (.iload_n 1, 42, 0, 0, 0), (.if_icmp .gt 66, 43, 0, 0, 0), (.iload 6, 46, 0, 0, 0), (.iload_n 1, 48, 0, 0, 0), (.iconst (-1), 49, 0, 0, 0), (.ixor, 50, 0, 0, 0), (.iand, 51, 0, 0, 0), (.ifCond .ne 51, 52, 0, 0, 0), (.iload 6, 55, 0, 0, 0), (.invokestatic 142, 57, 1, 1, 60), (.iload_n 2, 60, 0, 0, 0), (.if_icmp .ne 42, 61, 0, 0, 0), (.aload_n 0, 64, 0, 0, 0), (.iload 6, 65, 0, 0, 0), (.invokevirtual 292, 67, 175, 1, 1498), (.lstore 7, 70, 0, 0, 0), (.lload 7, 72, 0, 0, 0), (.ldc2_w 262, 74, 0, 4, 9223372036854775807), (.lcmp, 77, 0, 0, 0), (.ifCond .eq 25, 78, 0, 0, 0), (.iload_n 3, 81, 0, 0, 0), (.iconst (-1), 82, 0, 0, 0), (.if_icmp .eq 13, 83, 0, 0, 0), (.lload 7, 86, 0, 0, 0), (.lload 4, 88, 0, 0, 0), (.invokestatic 264, 90, 56, 2, 94), (.ifCond .eq 10, 93, 0, 0, 0)], 96),
  (96, [true, true, true, false, false, false, true, true, false], [(.iload 6, 96, 0, 0, 0), (.istore_n 3, 98, 0, 0, 0), (.lload 7, 99, 0, 0, 0), (.lstore 4, 101, 0, 0, 0)], 103),
  (103, [true, true, true, true, true, false, true, false, false], [(.iinc 6 1, 103, 0, 0, 0), (.goto (-66), 106, 0, 0, 0)], 109),
  (109, [false, false, false, true, false, false, false, false, false], [(.iload_n 3, 109, 0, 0, 0), (.ireturn, 110, 0, 0, 0)], 111)]
def z_md_155 : z_Md := (false, [], (fun t => z_B_155.lookup t), 9)
set_option maxRecDepth 100000 in
theorem z_gm_155 {mt : Nat → z_Md} (h : mt 155 = z_md_155) : z_gm z_mi mt 155 := z_okB_ok (o := 13) (vp := 0) (md := (false, [], 9)) (bl := z_B_155) h (fun z => absurd rfl z) (by decide +kernel)
/-- LacedHoles.see(II)I -/
def z_B_156 : z_Bk := [(0, [true, true, true], [(.aload_n 0, 0, 0, 0, 0), (.iload_n 1, 1, 0, 0, 0), (.invokevirtual 176, 2, 170, 1, 3018), (.aload_n 0, 5, 0, 0, 0), (.iload_n 2, 6, 0, 0, 0), (.invokevirtual 176, 7, 170, 1, 3018), (.iload_n 1, 10, 0, 0, 0), (.iload_n 2, 11, 0, 0, 0), (.if_icmp .ne 13, 12, 0, 0, 0), (.new 108, 15, 60, 0, 7)], 18),
  (25, [true, true, true], [(.aload_n 0, 25, 0, 0, 0), (.getfield 72, 26, 10, 9, 81), (.iload_n 1, 29, 0, 0, 0), (.invokevirtual 295, 30, 40, 1, 3792), (.ifCond .ne 14, 33, 0, 0, 0), (.aload_n 0, 36, 0, 0, 0), (.getfield 72, 37, 10, 9, 81), (.iload_n 2, 40, 0, 0, 0), (.invokevirtual 295, 41, 40, 1, 3792), (.ifCond .eq 5, 44, 0, 0, 0)], 47),
  (47, [false, false, false], [(.iconst (-1), 47, 0, 0, 0), (.ireturn, 48, 0, 0, 0)], 49),
  (49, [true, true, true], [(.aload_n 0, 49, 0, 0, 0), (.getfield 61, 50, 10, 7, 79), (.getfield 298, 53, 5, 1, 49), (.iload_n 1, 56, 0, 0, 0), (.iload_n 2, 57, 0, 0, 0), (.invokevirtual 302, 58, 82, 2, 3811), (.ifCond .eq 16, 61, 0, 0, 0), (.aload_n 0, 64, 0, 0, 0), (.getfield 61, 65, 10, 7, 79), (.getfield 298, 68, 5, 1, 49), (.getfield 308, 71, 3, 1, 33), (.goto 4, 74, 0, 0, 0)], 77),
  (77, [false, false, false], [(.iconst (-1), 77, 0, 0, 0)], 78),
  (78, [false, false, false], [(.ireturn, 78, 0, 0, 0)], 79)]
def z_md_156 : z_Md := (false, [], (fun t => z_B_156.lookup t), 3)
set_option maxRecDepth 100000 in
theorem z_gm_156 {mt : Nat → z_Md} (h : mt 156 = z_md_156) : z_gm z_mi mt 156 := z_okB_ok (o := 13) (vp := 0) (md := (false, [], 3)) (bl := z_B_156) h (fun z => absurd rfl z) (by decide +kernel)
/-- LacedHoles.blind()I -/
def z_B_157 : z_Bk := [(0, [true, false], [(.aload_n 0, 0, 0, 0, 0), (.getfield 61, 1, 10, 7, 79), (.getfield 298, 4, 5, 1, 49), (.getfield 308, 7, 3, 1, 33), (.istore_n 1, 10, 0, 0, 0), (.aload_n 0, 11, 0, 0, 0), (.getfield 61, 12, 10, 7, 79), (.getfield 298, 15, 5, 1, 49), (.invokevirtual 311, 18, 79, 0, 1539), (.iload_n 1, 21, 0, 0, 0), (.ireturn, 22, 0, 0, 0)], 23)]
def z_md_157 : z_Md := (false, [], (fun t => z_B_157.lookup t), 2)
set_option maxRecDepth 100000 in
theorem z_gm_157 {mt : Nat → z_Md} (h : mt 157 = z_md_157) : z_gm z_mi mt 157 := z_okB_ok (o := 13) (vp := 0) (md := (false, [], 2)) (bl := z_B_157) h (fun z => absurd rfl z) (by decide +kernel)
/-- LacedHoles.within()I -/
def z_B_158 : z_Bk := [(0, [true], [(.aload_n 0, 0, 0, 0, 0), (.getfield 40, 1, 10, 4, 76), (.aload_n 0, 4, 0, 0, 0), (.getfield 72, 5, 10, 9, 81), (.aload_n 0, 8, 0, 0, 0), (.getfield 61, 9, 10, 7, 79), (.getfield 298, 12, 5, 1, 49), (.invokevirtual 312, 15, 124, 2, 1575), (.ireturn, 18, 0, 0, 0)], 19)]
def z_md_158 : z_Md := (false, [], (fun t => z_B_158.lookup t), 1)
set_option maxRecDepth 100000 in
theorem z_gm_158 {mt : Nat → z_Md} (h : mt 158 = z_md_158) : z_gm z_mi mt 158 := z_okB_ok (o := 13) (vp := 0) (md := (false, [], 1)) (bl := z_B_158) h (fun z => absurd rfl z) (by decide +kernel)
/-- LacedHoles.guess()I -/
def z_B_159 : z_Bk := [(0, [true], [(.aload_n 0, 0, 0, 0, 0), (.getfield 40, 1, 10, 4, 76), (.aload_n 0, 4, 0, 0, 0), (.getfield 72, 5, 10, 9, 81), (.aload_n 0, 8, 0, 0, 0), (.getfield 61, 9, 10, 7, 79), (.getfield 298, 12, 5, 1, 49), (.aload_n 0, 15, 0, 0, 0), (.getfield 54, 16, 10, 6, 78), (.invokevirtual 316, 19, 125, 3, 1639), (.ifCond .ne 5, 22, 0, 0, 0), (.iconst (-1), 25, 0, 0, 0), (.ireturn, 26, 0, 0, 0)], 27),
  (27, [true], [(.aload_n 0, 27, 0, 0, 0), (.invokevirtual 151, 28, 173, 0, 1674), (.ireturn, 31, 0, 0, 0)], 32)]
def z_md_159 : z_Md := (false, [], (fun t => z_B_159.lookup t), 1)
set_option maxRecDepth 100000 in
theorem z_gm_159 {mt : Nat → z_Md} (h : mt 159 = z_md_159) : z_gm z_mi mt 159 := z_okB_ok (o := 13) (vp := 0) (md := (false, [], 1)) (bl := z_B_159) h (fun z => absurd rfl z) (by decide +kernel)
/-- LacedHoles.seen()I -/
def z_B_160 : z_Bk := [(0, [true], [(.aload_n 0, 0, 0, 0, 0), (.invokevirtual 192, 1, 171, 0, 3098), (.aload_n 0, 4, 0, 0, 0), (.getfield 61, 5, 10, 7, 79), (.getfield 298, 8, 5, 1, 49), (.aload_n 0, 11, 0, 0, 0), (.getfield 61, 12, 10, 7, 79), (.getfield 169, 15, 5, 0, 47), (.invokevirtual 320, 18, 83, 1, 3859), (.ireturn, 21, 0, 0, 0)], 22)]
def z_md_160 : z_Md := (false, [], (fun t => z_B_160.lookup t), 1)
set_option maxRecDepth 100000 in
theorem z_gm_160 {mt : Nat → z_Md} (h : mt 160 = z_md_160) : z_gm z_mi mt 160 := z_okB_ok (o := 13) (vp := 0) (md := (false, [], 1)) (bl := z_B_160) h (fun z => absurd rfl z) (by decide +kernel)
/-- LacedHoles.knot(II)I -/
def z_B_161 : z_Bk := [(0, [true, true, true], [(.aload_n 0, 0, 0, 0, 0), (.invokevirtual 192, 1, 171, 0, 3098), (.iload_n 1, 4, 0, 0, 0), (.ifCond .lt 19, 5, 0, 0, 0), (.iload_n 1, 8, 0, 0, 0), (.sipush 999, 9, 0, 0, 0), (.if_icmp .gt 12, 12, 0, 0, 0), (.iload_n 2, 15, 0, 0, 0), (.ifCond .eq 19, 16, 0, 0, 0), (.iload_n 2, 19, 0, 0, 0), (.iconst 1, 20, 0, 0, 0), (.if_icmp .eq 14, 21, 0, 0, 0)], 24),
  (24, [false, false, false], [(.new 108, 24, 60, 0, 8)], 27),
  (35, [true, true, true], [(.aload_n 0, 35, 0, 0, 0), (.getfield 19, 36, 10, 1, 73), (.aload_n 0, 39, 0, 0, 0), (.getfield 72, 40, 10, 9, 81), (.aload_n 0, 43, 0, 0, 0), (.getfield 61, 44, 10, 7, 79), (.getfield 169, 47, 5, 0, 47), (.iload_n 1, 50, 0, 0, 0), (.iload_n 2, 51, 0, 0, 0), (.iconst 1, 52, 0, 0, 0), (.if_icmp .ne 7, 53, 0, 0, 0), (.iconst 1, 56, 0, 0, 0), (.goto 4, 57, 0, 0, 0)], 60),
  (60, [false, false, false], [(.iconst 0, 60, 0, 0, 0)], 61),
  (61, [false, false, false], [(.invokevirtual 326, 61, 60, 4, 3956), (.ireturn, 64, 0, 0, 0)], 65)]
def z_md_161 : z_Md := (false, [], (fun t => z_B_161.lookup t), 3)
set_option maxRecDepth 100000 in
theorem z_gm_161 {mt : Nat → z_Md} (h : mt 161 = z_md_161) : z_gm z_mi mt 161 := z_okB_ok (o := 13) (vp := 0) (md := (false, [], 3)) (bl := z_B_161) h (fun z => absurd rfl z) (by decide +kernel)
/-- LacedHoles.wear(I)I -/
def z_B_162 : z_Bk := [(0, [true, true], [(.aload_n 0, 0, 0, 0, 0), (.iload_n 1, 1, 0, 0, 0), (.invokevirtual 176, 2, 170, 1, 3018), (.aload_n 0, 5, 0, 0, 0), (.invokevirtual 192, 6, 171, 0, 3098), (.aload_n 0, 9, 0, 0, 0), (.getfield 61, 10, 10, 7, 79), (.getfield 169, 13, 5, 0, 47), (.aload_n 0, 16, 0, 0, 0), (.getfield 72, 17, 10, 9, 81), (.iload_n 1, 20, 0, 0, 0), (.invokevirtual 330, 21, 75, 2, 4024), (.ireturn, 24, 0, 0, 0)], 25)]
def z_md_162 : z_Md := (false, [], (fun t => z_B_162.lookup t), 2)
set_option maxRecDepth 100000 in
theorem z_gm_162 {mt : Nat → z_Md} (h : mt 162 = z_md_162) : z_gm z_mi mt 162 := z_okB_ok (o := 13) (vp := 0) (md := (false, [], 2)) (bl := z_B_162) h (fun z => absurd rfl z) (by decide +kernel)
/-- LacedHoles.keep()I -/
def z_B_163 : z_Bk := [(0, [true], [(.aload_n 0, 0, 0, 0, 0), (.invokevirtual 192, 1, 171, 0, 3098), (.aload_n 0, 4, 0, 0, 0), (.getfield 61, 5, 10, 7, 79), (.aload_n 0, 8, 0, 0, 0), (.getfield 72, 9, 10, 9, 81), (.invokevirtual 334, 12, 89, 1, 4069), (.ifCond .eq 13, 15, 0, 0, 0), (.aload_n 0, 18, 0, 0, 0), (.getfield 61, 19, 10, 7, 79), (.getfield 338, 22, 5, 3, 53), (.goto 4, 25, 0, 0, 0)], 28),
  (28, [false], [(.iconst (-1), 28, 0, 0, 0)], 29),
  (29, [false], [(.ireturn, 29, 0, 0, 0)], 30)]
def z_md_163 : z_Md := (false, [], (fun t => z_B_163.lookup t), 1)
set_option maxRecDepth 100000 in
theorem z_gm_163 {mt : Nat → z_Md} (h : mt 163 = z_md_163) : z_gm z_mi mt 163 := z_okB_ok (o := 13) (vp := 0) (md := (false, [], 1)) (bl := z_B_163) h (fun z => absurd rfl z) (by decide +kernel)
/-- LacedHoles.drop()I -/
def z_B_164 : z_Bk := [(0, [true, false], [(.aload_n 0, 0, 0, 0, 0), (.getfield 61, 1, 10, 7, 79), (.getfield 338, 4, 5, 3, 53), (.istore_n 1, 7, 0, 0, 0), (.aload_n 0, 8, 0, 0, 0), (.getfield 61, 9, 10, 7, 79), (.iconst 0, 12, 0, 0, 0), (.putfield 338, 13, 5, 3, 53), (.iload_n 1, 16, 0, 0, 0), (.ireturn, 17, 0, 0, 0)], 18)]
def z_md_164 : z_Md := (false, [], (fun t => z_B_164.lookup t), 2)
set_option maxRecDepth 100000 in
theorem z_gm_164 {mt : Nat → z_Md} (h : mt 164 = z_md_164) : z_gm z_mi mt 164 := z_okB_ok (o := 13) (vp := 0) (md := (false, [], 2)) (bl := z_B_164) h (fun z => absurd rfl z) (by decide +kernel)
/-- LacedHoles.weeks(II)I -/
def z_B_165 : z_Bk := [(0, [true, true, true], [(.iload_n 1, 0, 0, 0, 0), (.iconst 1, 1, 0, 0, 0), (.if_icmp .lt 18, 2, 0, 0, 0), (.iload_n 1, 5, 0, 0, 0), (.bipush 12, 6, 0, 0, 0), (.if_icmp .gt 12, 8, 0, 0, 0), (.iload_n 2, 11, 0, 0, 0), (.ifCond .eq 19, 12, 0, 0, 0), (.iload_n 2, 15, 0, 0, 0), (.iconst 1, 16, 0, 0, 0), (.if_icmp .eq 14, 17, 0, 0, 0)], 20),
  (20, [false, false, false], [(.new 108, 20, 60, 0, 9)], 23),
  (31, [true, true, true], [(.aload_n 0, 31, 0, 0, 0), (.getfield 61, 32, 10, 7, 79), (.getfield 338, 35, 5, 3, 53), (.ifCond .ne 5, 38, 0, 0, 0), (.iconst (-1), 41, 0, 0, 0), (.ireturn, 42, 0, 0, 0)], 43),
  (43, [true, true, true], [(.aload_n 0, 43, 0, 0, 0), (.getfield 47, 44, 10, 5, 77), (.aload_n 0, 47, 0, 0, 0), (.getfield 61, 48, 10, 7, 79), (.iload_n 1, 51, 0, 0, 0), (.invokevirtual 343, 52, 131, 2, 4137), (.iload_n 2, 55, 0, 0, 0), (.ifCond .ne 13, 56, 0, 0, 0), (.aload_n 0, 59, 0, 0, 0), (.getfield 47, 60, 10, 5, 77), (.getfield 347, 63, 9, 1, 43), (.goto 10, 66, 0, 0, 0)], 69),
  (69, [true, false, false], [(.aload_n 0, 69, 0, 0, 0), (.getfield 47, 70, 10, 5, 77), (.getfield 350, 73, 9, 2, 45)], 76),
  (76, [false, false, false], [(.ireturn, 76, 0, 0, 0)], 77)]
def z_md_165 : z_Md := (false, [], (fun t => z_B_165.lookup t), 3)
set_option maxRecDepth 100000 in
theorem z_gm_165 {mt : Nat → z_Md} (h : mt 165 = z_md_165) : z_gm z_mi mt 165 := z_okB_ok (o := 13) (vp := 0) (md := (false, [], 3)) (bl := z_B_165) h (fun z => absurd rfl z) (by decide +kernel)
/-- LacedHoles.draw(I)I -/
def z_B_166 : z_Bk := [(0, [true, true, false, false, false, false, false], [(.aload_n 0, 0, 0, 0, 0), (.getfield 72, 1, 10, 9, 81), (.invokevirtual 139, 4, 41, 0, 944), (.istore_n 2, 7, 0, 0, 0), (.iload_n 2, 8, 0, 0, 0), (.invokestatic 142, 9, 1, 1, 60), (.iconst 3, 12, 0, 0, 0), (.if_icmp .ge 7, 13, 0, 0, 0), (.lconst 0, 16, 0, 0, 0), (.goto 15, 17, 0, 0, 0)], 20),
  (20, [true, true, true, false, false, false, false], [(.aload_n 0, 20, 0, 0, 0), (.getfield 26, 21, 10, 2, 74), (.aload_n 0, 24, 0, 0, 0), (.getfield 72, 25, 10, 9, 81), (.iload_n 2, 28, 0, 0, 0), (.invokevirtual 233, 29, 91, 2, 1729)], 32),
  (32, [true, true, true, false, false, false, false], [(.lstore_n 3, 32, 0, 0, 0), (.lload_n 3, 33, 0, 0, 0), (.lconst 1, 34, 0, 0, 0), (.lcmp, 35, 0, 0, 0), (.ifCond .ge 5, 36, 0, 0, 0), (.iconst (-1), 39, 0, 0, 0), (.ireturn, 40, 0, 0, 0)], 41),
  (41, [true, true, true, true, false, false, false], [(.iload_n 1, 41, 0, 0, 0), (.ldc_w 353, 42, 0, 5, 2147483647), (.iand, 45, 0, 0, 0), (.iconst 2, 46, 0, 0, 0), (.idiv, 47, 0, 0, 0), (.i2l, 48, 0, 0, 0), (.lload_n 3, 49, 0, 0, 0), (.lrem, 50, 0, 0, 0), (.lstore 5, 51, 0, 0, 0), (.aload_n 0, 53, 0, 0, 0), (.getfield 26, 54, 10, 2, 74), (.aload_n 0, 57, 0, 0, 0), (.getfield 72, 58, 10, 9, 81), (.iload_n 2, 61, 0, 0, 0), (.lload 5, 62, 0, 0, 0), (.aload_n 0, 64, 0, 0, 0), (.getfield 54, 65, 10, 6, 78), (.invokevirtual 237, 68, 93, 4, 2049), (.ifCond .eq 10, 71, 0, 0, 0), (.aload_n 0, 74, 0, 0, 0), (.invokevirtual 151, 75, 173, 0, 1674), (.goto 4, 78, 0, 0, 0)], 81),
  (81, [false, false, false, false, false, false, false], [(.iconst (-1), 81, 0, 0, 0)], 82),
  (82, [false, false, false, false, false, false, false], [(.ireturn, 82, 0, 0, 0)], 83)]
def z_md_166 : z_Md := (false, [], (fun t => z_B_166.lookup t), 7)
set_option maxRecDepth 100000 in
theorem z_gm_166 {mt : Nat → z_Md} (h : mt 166 = z_md_166) : z_gm z_mi mt 166 := z_okB_ok (o := 13) (vp := 0) (md := (false, [], 7)) (bl := z_B_166) h (fun z => absurd rfl z) (by decide +kernel)
/-- LacedHoles.image()I -/
def z_B_167 : z_Bk := [(0, [true], [(.aload_n 0, 0, 0, 0, 0), (.getfield 79, 1, 10, 11, 83), (.ifCond .lt 27, 4, 0, 0, 0), (.aload_n 0, 7, 0, 0, 0), (.getfield 79, 8, 10, 11, 83), (.aload_n 0, 11, 0, 0, 0), (.getfield 65, 12, 10, 8, 80), (.arraylength, 15, 0, 0, 0), (.if_icmp .ge 15, 16, 0, 0, 0), (.aload_n 0, 19, 0, 0, 0), (.getfield 65, 20, 10, 8, 80), (.aload_n 0, 23, 0, 0, 0), (.getfield 79, 24, 10, 11, 83), (.aaload, 27, 0, 0, 0), (.ifnonnull 5, 28, 0, 0, 0)], 31),
  (31, [false], [(.iconst (-1), 31, 0, 0, 0), (.ireturn, 32, 0, 0, 0)], 33),
  (33, [true], [(.aload_n 0, 33, 0, 0, 0), (.getfield 65, 34, 10, 8, 80), (.aload_n 0, 37, 0, 0, 0), (.getfield 79, 38, 10, 11, 83), (.aaload, 41, 0, 0, 0), (.aload_n 0, 42, 0, 0, 0), (.getfield 61, 43, 10, 7, 79), (.invokevirtual 354, 46, 87, 1, 2133), (.aload_n 0, 49, 0, 0, 0), (.dup, 50, 0, 0, 0), (.getfield 79, 51, 10, 11, 83), (.iconst 1, 54, 0, 0, 0), (.iadd, 55, 0, 0, 0), (.putfield 79, 56, 10, 11, 83), (.aload_n 0, 59, 0, 0, 0), (.getfield 79, 60, 10, 11, 83), (.ireturn, 63, 0, 0, 0)], 64)]
def z_md_167 : z_Md := (false, [], (fun t => z_B_167.lookup t), 1)
set_option maxRecDepth 100000 in
theorem z_gm_167 {mt : Nat → z_Md} (h : mt 167 = z_md_167) : z_gm z_mi mt 167 := z_okB_ok (o := 13) (vp := 0) (md := (false, [], 1)) (bl := z_B_167) h (fun z => absurd rfl z) (by decide +kernel)
/-- LacedHoles.restore()I -/
def z_B_168 : z_Bk := [(0, [true, false], [(.aload_n 0, 0, 0, 0, 0), (.getfield 79, 1, 10, 11, 83), (.iconst 1, 4, 0, 0, 0), (.isub, 5, 0, 0, 0), (.istore_n 1, 6, 0, 0, 0), (.iload_n 1, 7, 0, 0, 0), (.ifCond .lt 21, 8, 0, 0, 0), (.iload_n 1, 11, 0, 0, 0), (.aload_n 0, 12, 0, 0, 0), (.getfield 65, 13, 10, 8, 80), (.arraylength, 16, 0, 0, 0), (.if_icmp .ge 12, 17, 0, 0, 0), (.aload_n 0, 20, 0, 0, 0), (.getfield 65, 21, 10, 8, 80), (.iload_n 1, 24, 0, 0, 0), (.aaload, 25, 0, 0, 0), (.ifnonnull 5, 26, 0, 0, 0)], 29),
  (29, [false, false], [(.iconst (-1), 29, 0, 0, 0), (.ireturn, 30, 0, 0, 0)], 31),
  (31, [true, true], [(.aload_n 0, 31, 0, 0, 0), (.getfield 61, 32, 10, 7, 79), (.aload_n 0, 35, 0, 0, 0), (.getfield 65, 36, 10, 8, 80), (.iload_n 1, 39, 0, 0, 0), (.aaload, 40, 0, 0, 0), (.invokevirtual 354, 41, 87, 1, 2133), (.aload_n 0, 44, 0, 0, 0), (.iload_n 1, 45, 0, 0, 0), (.putfield 79, 46, 10, 11, 83), (.aload_n 0, 49, 0, 0, 0), (.getfield 79, 50, 10, 11, 83), (.ireturn, 53, 0, 0, 0)], 54)]
def z_md_168 : z_Md := (false, [], (fun t => z_B_168.lookup t), 2)
set_option maxRecDepth 100000 in
theorem z_gm_168 {mt : Nat → z_Md} (h : mt 168 = z_md_168) : z_gm z_mi mt 168 := z_okB_ok (o := 13) (vp := 0) (md := (false, [], 2)) (bl := z_B_168) h (fun z => absurd rfl z) (by decide +kernel)
/-- LacedHoles.sums(I)I -/
def z_B_169 : z_Bk := [(0, [true, true], [(.iload_n 1, 0, 0, 0, 0), (.tableswitch 63 0 3 #[31, 39, 50, 55], 1, 0, 0, 0)], 2),
  (32, [true, false], [(.aload_n 0, 32, 0, 0, 0), (.getfield 61, 33, 10, 7, 79), (.getfield 338, 36, 5, 3, 53), (.ireturn, 39, 0, 0, 0)], 40),
  (40, [true, false], [(.aload_n 0, 40, 0, 0, 0), (.getfield 61, 41, 10, 7, 79), (.getfield 298, 44, 5, 1, 49), (.getfield 308, 47, 3, 1, 33), (.ireturn, 50, 0, 0, 0)], 51),
  (51, [true, false], [(.aload_n 0, 51, 0, 0, 0), (.getfield 79, 52, 10, 11, 83), (.ireturn, 55, 0, 0, 0)], 56),
  (56, [true, false], [(.aload_n 0, 56, 0, 0, 0), (.getfield 10, 57, 10, 0, 72), (.invokevirtual 104, 60, 14, 0, 358), (.ireturn, 63, 0, 0, 0)], 64),
  (64, [false, false], [(.iconst (-1), 64, 0, 0, 0), (.ireturn, 65, 0, 0, 0)], 66)]
def z_md_169 : z_Md := (false, [], (fun t => z_B_169.lookup t), 2)
set_option maxRecDepth 100000 in
theorem z_gm_169 {mt : Nat → z_Md} (h : mt 169 = z_md_169) : z_gm z_mi mt 169 := z_okB_ok (o := 13) (vp := 0) (md := (false, [], 2)) (bl := z_B_169) h (fun z => absurd rfl z) (by decide +kernel)
/-- LacedHoles.needHole(I)V -/
def z_B_170 : z_Bk := [(0, [true, true], [(.aload_n 0, 0, 0, 0, 0), (.getfield 72, 1, 10, 9, 81), (.iload_n 1, 4, 0, 0, 0), (.invokevirtual 358, 5, 39, 1, 3024), (.ifCond .ne 14, 8, 0, 0, 0), (.new 361, 11, 61, 0, 10)], 14),
  (22, [false, false], [(.return_, 22, 0, 0, 0)], 23)]
def z_md_170 : z_Md := (false, [], (fun t => z_B_170.lookup t), 2)
set_option maxRecDepth 100000 in
theorem z_gm_170 {mt : Nat → z_Md} (h : mt 170 = z_md_170) : z_gm z_mi mt 170 := z_okB_ok (o := 13) (vp := 0) (md := (false, [], 2)) (bl := z_B_170) h (fun z => absurd rfl z) (by decide +kernel)
/-- LacedHoles.needWay()V -/
def z_B_171 : z_Bk := [(0, [true], [(.aload_n 0, 0, 0, 0, 0), (.getfield 61, 1, 10, 7, 79), (.getfield 169, 4, 5, 0, 47), (.getfield 172, 7, 8, 1, 27), (.ifCond .ne 14, 10, 0, 0, 0), (.new 366, 13, 62, 0, 11)], 16),
  (24, [false], [(.return_, 24, 0, 0, 0)], 25)]
def z_md_171 : z_Md := (false, [], (fun t => z_B_171.lookup t), 1)
set_option maxRecDepth 100000 in
theorem z_gm_171 {mt : Nat → z_Md} (h : mt 171 = z_md_171) : z_gm z_mi mt 171 := z_okB_ok (o := 13) (vp := 0) (md := (false, [], 1)) (bl := z_B_171) h (fun z => absurd rfl z) (by decide +kernel)
/-- LacedHoles.needRoundOf(I)V -/
def z_B_172 : z_Bk := [(0, [true, true], [(.iload_n 1, 0, 0, 0, 0), (.aload_n 0, 1, 0, 0, 0), (.getfield 72, 2, 10, 9, 81), (.invokevirtual 139, 5, 41, 0, 944), (.iconst (-1), 8, 0, 0, 0), (.ixor, 9, 0, 0, 0), (.iand, 10, 0, 0, 0), (.ifCond .ne 11, 11, 0, 0, 0), (.iload_n 1, 14, 0, 0, 0), (.invokestatic 142, 15, 1, 1, 60), (.iconst 3, 18, 0, 0, 0), (.if_icmp .ge 14, 19, 0, 0, 0)], 22),
  (22, [false, false], [(.new 108, 22, 60, 0, 12)], 25),
  (33, [false, false], [(.return_, 33, 0, 0, 0)], 34)]
def z_md_172 : z_Md := (false, [], (fun t => z_B_172.lookup t), 2)
set_option maxRecDepth 100000 in
theorem z_gm_172 {mt : Nat → z_Md} (h : mt 172 = z_md_172) : z_gm z_mi mt 172 := z_okB_ok (o := 13) (vp := 0) (md := (false, [], 2)) (bl := z_B_172) h (fun z => absurd rfl z) (by decide +kernel)
/-- LacedHoles.adoptDraft()I -/
def z_B_173 : z_Bk := [(0, [true], [(.aload_n 0, 0, 0, 0, 0), (.getfield 61, 1, 10, 7, 79), (.getfield 169, 4, 5, 0, 47), (.aload_n 0, 7, 0, 0, 0), (.getfield 54, 8, 10, 6, 78), (.invokevirtual 373, 11, 64, 1, 1688), (.aload_n 0, 14, 0, 0, 0), (.getfield 61, 15, 10, 7, 79), (.getfield 169, 18, 5, 0, 47), (.getfield 172, 21, 8, 1, 27), (.ireturn, 24, 0, 0, 0)], 25)]
def z_md_173 : z_Md := (false, [], (fun t => z_B_173.lookup t), 1)
set_option maxRecDepth 100000 in
theorem z_gm_173 {mt : Nat → z_Md} (h : mt 173 = z_md_173) : z_gm z_mi mt 173 := z_okB_ok (o := 13) (vp := 0) (md := (false, [], 1)) (bl := z_B_173) h (fun z => absurd rfl z) (by decide +kernel)
/-- LacedHoles.fitsLace(I)Z -/
def z_B_174 : z_Bk := [(0, [true, true, false, false], [(.aload_n 0, 0, 0, 0, 0), (.getfield 33, 1, 10, 3, 75), (.iload_n 1, 4, 0, 0, 0), (.invokevirtual 258, 5, 110, 1, 994), (.lstore_n 2, 8, 0, 0, 0), (.lload_n 2, 9, 0, 0, 0), (.ldc2_w 262, 10, 0, 4, 9223372036854775807), (.lcmp, 13, 0, 0, 0), (.ifCond .eq 21, 14, 0, 0, 0), (.lload_n 2, 17, 0, 0, 0), (.aload_n 0, 18, 0, 0, 0), (.getfield 72, 19, 10, 9, 81), (.getfield 163, 22, 0, 6, 71), (.invokestatic 215, 25, 57, 2, 63), (.ifCond .eq 7, 28, 0, 0, 0), (.iconst 1, 31, 0, 0, 0), (.goto 4, 32, 0, 0, 0)], 35),
  (35, [false, false, false, false], [(.iconst 0, 35, 0, 0, 0)], 36),
  (36, [false, false, false, false], [(.ireturn, 36, 0, 0, 0)], 37)]
def z_md_174 : z_Md := (true, [], (fun t => z_B_174.lookup t), 4)
set_option maxRecDepth 100000 in
theorem z_gm_174 {mt : Nat → z_Md} (h : mt 174 = z_md_174) : z_gm z_mi mt 174 := z_okB_ok (o := 13) (vp := 0) (md := (true, [], 4)) (bl := z_B_174) h (fun z => absurd rfl z) (by decide +kernel)
/-- LacedHoles.lengthOfTwo(I)J -/
def z_B_175 : z_Bk := [(0, [true, true, false, false, false, false], [(.aload_n 0, 0, 0, 0, 0), (.getfield 33, 1, 10, 3, 75), (.iload_n 1, 4, 0, 0, 0), (.invokevirtual 258, 5, 110, 1, 994), (.lstore_n 2, 8, 0, 0, 0), (.aload_n 0, 9, 0, 0, 0), (.getfield 33, 10, 10, 3, 75), (.aload_n 0, 13, 0, 0, 0), (.getfield 72, 14, 10, 9, 81), (.invokevirtual 139, 17, 41, 0, 944), (.iload_n 1, 20, 0, 0, 0), (.iconst (-1), 21, 0, 0, 0), (.ixor, 22, 0, 0, 0), (.iand, 23, 0, 0, 0), (.invokevirtual 258, 24, 110, 1, 994), (.lstore 4, 27, 0, 0, 0), (.lload_n 2, 29, 0, 0, 0), (.ldc2_w 262, 30, 0, 4, 9223372036854775807), (.lcmp, 33, 0, 0, 0), (.ifCond .eq 12, 34, 0, 0, 0), (.lload 4, 37, 0, 0, 0), (.ldc2_w 262, 39, 0, 4, 9223372036854775807), (.lcmp, 42, 0, 0, 0), (.ifCond .ne 9, 43, 0, 0, 0)], 46),
  (46, [false, false, false, false, false, false], [(.ldc2_w 262, 46, 0, 4, 9223372036854775807), (.goto 7, 49, 0, 0, 0)], 52),
  (52, [false, false, true, false, true, false], [(.lload_n 2, 52, 0, 0, 0), (.lload 4, 53, 0, 0, 0), (.ladd, 55, 0, 0, 0)], 56),
  (56, [false, false, false, false, false, false], [(.lreturn, 56, 0, 0, 0)], 57)]
def z_md_175 : z_Md := (false, [], (fun t => z_B_175.lookup t), 6)
set_option maxRecDepth 100000 in
theorem z_gm_175 {mt : Nat → z_Md} (h : mt 175 = z_md_175) : z_gm z_mi mt 175 := z_okB_ok (o := 13) (vp := 0) (md := (false, [], 6)) (bl := z_B_175) h (fun z => absurd rfl z) (by decide +kernel)
/-- LacedHolesModel.<init>()V -/
def z_B_176 : z_Bk := [(0, [true], [(.aload_n 0, 0, 0, 0, 0), (.invokespecial 3, 1, 999, 0, 11), (.aload_n 0, 4, 0, 0, 0), (.iconst (-1), 5, 0, 0, 0), (.putfield 9, 6, 11, 3, 88), (.aload_n 0, 9, 0, 0, 0), (.sipush 400, 10, 0, 0, 0), (.newarray .int, 13, 0, 0, 0), (.putfield 13, 15, 11, 8, 93), (.aload_n 0, 18, 0, 0, 0), (.bipush 7, 19, 0, 0, 0), (.newarray .int, 21, 0, 0, 0), (.putfield 17, 23, 11, 9, 94), (.aload_n 0, 26, 0, 0, 0), (.bipush 7, 27, 0, 0, 0), (.newarray .int, 29, 0, 0, 0), (.putfield 20, 31, 11, 10, 95), (.aload_n 0, 34, 0, 0, 0), (.bipush 12, 35, 0, 0, 0), (.newarray .int, 37, 0, 0, 0), (.putfield 23, 39, 11, 11, 96), (.aload_n 0, 42, 0, 0, 0), (.bipush 12, 43, 0, 0, 0), (.newarray .int, 45, 0, 0, 0), (.putfield 26, 47, 11, 12, 97), (.aload_n 0, 50, 0, 0, 0), (.bipush 6, 51, 0, 0, 0), (.iconst 2, 53, 0, 0, 0), (.multianewarray 29 2, 54, 0, 0, 21), (.putfield 31, 58, 11, 18, 103), (.aload_n 0, 61, 0, 0, 0), (.iconst 4, 62, 0, 0, 0), (.bipush 13, 63, 0, 0, 0), (.multianewarray 29 2, 65, 0, 0, 21), (.putfield 34, 69, 11, 19, 104), (.aload_n 0, 72, 0, 0, 0), (.iconst 3, 73, 0, 0, 0), (.bipush 79, 74, 0, 0, 0), (.multianewarray 29 2, 76, 0, 0, 21), (.putfield 37, 80, 11, 20, 105), (.aload_n 0, 83, 0, 0, 0), (.bipush 6, 84, 0, 0, 0), (.newarray .long, 86, 0, 0, 0), (.putfield 40, 88, 11, 21, 106), (.aload_n 0, 91, 0, 0, 0), (.bipush 6, 92, 0, 0, 0), (.newarray .long, 94, 0, 0, 0), (.putfield 44, 96, 11, 22, 107), (.aload_n 0, 99, 0, 0, 0), (.bipush 6, 100, 0, 0, 0), (.newarray .int, 102, 0, 0, 0), (.putfield 47, 104, 11, 23, 108), (.aload_n 0, 107, 0, 0, 0), (.bipush 6, 108, 0, 0, 0), (.newarray .int, 110, 0, 0, 0), (.putfield 50, 112, 11, 24, 109), (.aload_n 0, 115, 0, 0, 0), (.bipush 6, 116, 0, 0, 0), (.newarray .int, 118, 0, 0, 0), (.putfield 53, 120, 11, 25, 110), (.aload_n 0, 123, 0, 0, 0), (.bipush 6, 124, 0, 0, 0), (.sipush 228, 126, 0, 0, 0), (.multianewarray 29 2, 129, 0, 0, 21), (.putfield 56, 133, 11, 26, 111), (.aload_n 0, 136, 0, 0, 0), (.bipush 6, 137, 0, 0, 0), (.sipush 228, 139, 0, 0, 0), (.multianewarray 29 2, 142, 0, 0, 21), (.putfield 59, 146, 11, 27, 112), (.aload_n 0, 149, 0, 0, 0), (.sipush 476, 150, 0, 0, 0), (.newarray .int, 153, 0, 0, 0), (.putfield 62, 155, 11, 28, 113), (.aload_n 0, 158, 0, 0, 0), (.sipush 476, 159, 0, 0, 0), (.newarray .int, 162, 0, 0, 0), (.putfield 65, 164, 11, 29, 114), (.aload_n 0, 167, 0, 0, 0), (.bipush 6, 168, 0, 0, 0), (.newarray .int, 170, 0, 0, 0), (.putfield 68, 172, 11, 30, 115), (.aload_n 0, 175, 0, 0, 0), (.sipush 228, 176, 0, 0, 0), (.newarray .long, 179, 0, 0, 0), (.putfield 71, 181, 11, 31, 116), (.aload_n 0, 184, 0, 0, 0), (.bipush 12, 185, 0, 0, 0), (.newarray .int, 187, 0, 0, 0), (.putfield 74, 189, 11, 32, 117), (.aload_n 0, 192, 0, 0, 0), (.ldc 77, 193, 0, 8, 98304), (.newarray .long, 195, 0, 0, 0), (.putfield 78, 197, 11, 34, 119), (.aload_n 0, 200, 0, 0, 0), (.ldc 77, 201, 0, 8, 98304), (.newarray .long, 203, 0, 0, 0), (.putfield 81, 205, 11, 35, 120), (.aload_n 0, 208, 0, 0, 0), (.bipush 12, 209, 0, 0, 0), (.newarray .int, 211, 0, 0, 0), (.putfield 84, 213, 11, 36, 121), (.aload_n 0, 216, 0, 0, 0), (.bipush 12, 217, 0, 0, 0), (.newarray .int, 219, 0, 0, 0), (.putfield 87, 221, 11, 37, 122), (.aload_n 0, 224, 0, 0, 0), (.ldc 90, 225, 0, 9, 196608), (.newarray .long, 227, 0, 0, 0), (.putfield 91, 229, 11, 38, 123), (.aload_n 0, 232, 0, 0, 0), (.sipush 4096, 233, 0, 0, 0), (.newarray .long, 236, 0, 0, 0), (.putfield 94, 238, 11, 39, 124), (.aload_n 0, 241, 0, 0, 0), (.bipush 12, 242, 0, 0, 0), (.newarray .int, 244, 0, 0, 0), (.putfield 97, 246, 11, 40, 125), (.aload_n 0, 249, 0, 0, 0), (.bipush 12, 250, 0, 0, 0), (.newarray .int, 252, 0, 0, 0), (.putfield 100, 254, 11, 41, 126), (.aload_n 0, 257, 0, 0, 0), (.iconst 4, 258, 0, 0, 0), (.newarray .int, 259, 0, 0, 0), (.putfield 103, 261, 11, 44, 129), (.aload_n 0, 264, 0, 0, 0), (.invokevirtual 106, 265, 177, 0, 4283), (.aload_n 0, 268, 0, 0, 0), (.invokevirtual 109, 269, 194, 0, 4299), (.return_, 272, 0, 0, 0)], 273)]
def z_md_176 : z_Md := (false, [], (fun t => z_B_176.lookup t), 1)
set_option maxRecDepth 100000 in
theorem z_gm_176 {mt : Nat → z_Md} (h : mt 176 = z_md_176) : z_gm z_mi mt 176 := z_okB_ok (o := 14) (vp := 0) (md := (false, [], 1)) (bl := z_B_176) h (fun z => absurd rfl z) (by decide +kernel)
/-- LacedHolesModel.tellsNothing()V -/
def z_B_177 : z_Bk := [(0, [true, false, false], [(.bipush 7, 0, 0, 0, 0), (.newarray .int, 2, 0, 0, 0), (.dup, 4, 0, 0, 0), (.iconst 0, 5, 0, 0, 0), (.bipush 6, 6, 0, 0, 0), (.iastore, 8, 0, 0, 0), (.dup, 9, 0, 0, 0), (.iconst 1, 10, 0, 0, 0), (.bipush 6, 11, 0, 0, 0), (.iastore, 13, 0, 0, 0), (.dup, 14, 0, 0, 0), (.iconst 2, 15, 0, 0, 0), (.bipush 30, 16, 0, 0, 0), (.iastore, 18, 0, 0, 0), (.dup, 19, 0, 0, 0), (.iconst 3, 20, 0, 0, 0), (.bipush 20, 21, 0, 0, 0), (.iastore, 23, 0, 0, 0), (.dup, 24, 0, 0, 0), (.iconst 4, 25, 0, 0, 0), (.iconst 0, 26, 0, 0, 0), (.iastore, 27, 0, 0, 0), (.dup, 28, 0, 0, 0), (.iconst 5, 29, 0, 0, 0), (.sipush 9999, 30, 0, 0, 0), (.iastore, 33, 0, 0, 0), (.dup, 34, 0, 0, 0), (.bipush 6, 35, 0, 0, 0), (.iconst 0, 37, 0, 0, 0), (.iastore, 38, 0, 0, 0), (.astore_n 1, 39, 0, 0, 0), (.iconst 0, 40, 0, 0, 0), (.istore_n 2, 41, 0, 0, 0)], 42),
  (42, [true, true, true], [(.iload_n 2, 42, 0, 0, 0), (.bipush 7, 43, 0, 0, 0), (.if_icmp .ge 18, 45, 0, 0, 0), (.aload_n 0, 48, 0, 0, 0), (.getfield 17, 49, 11, 9, 94), (.iload_n 2, 52, 0, 0, 0), (.aload_n 1, 53, 0, 0, 0), (.iload_n 2, 54, 0, 0, 0), (.iaload, 55, 0, 0, 0), (.iastore, 56, 0, 0, 0), (.iinc 2 1, 57, 0, 0, 0), (.goto (-18), 60, 0, 0, 0)], 63),
  (63, [false, false, false], [(.return_, 63, 0, 0, 0)], 64)]
def z_md_177 : z_Md := (false, [], (fun t => z_B_177.lookup t), 3)
set_option maxRecDepth 100000 in
theorem z_gm_177 {mt : Nat → z_Md} (h : mt 177 = z_md_177) : z_gm z_mi mt 177 := z_okB_ok (o := 14) (vp := 0) (md := (false, [], 3)) (bl := z_B_177) h (fun z => absurd rfl z) (by decide +kernel)
/-- LacedHolesModel.thrown()I -/
def z_B_178 : z_Bk := [(0, [true], [(.aload_n 0, 0, 0, 0, 0), (.getfield 112, 1, 11, 0, 85), (.ireturn, 4, 0, 0, 0)], 5)]
def z_md_178 : z_Md := (false, [], (fun t => z_B_178.lookup t), 1)
set_option maxRecDepth 100000 in
theorem z_gm_178 {mt : Nat → z_Md} (h : mt 178 = z_md_178) : z_gm z_mi mt 178 := z_okB_ok (o := 14) (vp := 0) (md := (false, [], 1)) (bl := z_B_178) h (fun z => absurd rfl z) (by decide +kernel)
/-- LacedHolesModel.bad(ZI)Z -/
def z_B_179 : z_Bk := [(0, [true, true, true], [(.iload_n 1, 0, 0, 0, 0), (.ifCond .eq 15, 1, 0, 0, 0), (.aload_n 0, 4, 0, 0, 0), (.getfield 112, 5, 11, 0, 85), (.ifCond .ne 8, 8, 0, 0, 0), (.aload_n 0, 11, 0, 0, 0), (.iload_n 2, 12, 0, 0, 0), (.putfield 112, 13, 11, 0, 85)], 16),
  (16, [true, false, false], [(.aload_n 0, 16, 0, 0, 0), (.getfield 112, 17, 11, 0, 85), (.ifCond .eq 7, 20, 0, 0, 0), (.iconst 1, 23, 0, 0, 0), (.goto 4, 24, 0, 0, 0)], 27),
  (27, [false, false, false], [(.iconst 0, 27, 0, 0, 0)], 28),
  (28, [false, false, false], [(.ireturn, 28, 0, 0, 0)], 29)]
def z_md_179 : z_Md := (true, [], (fun t => z_B_179.lookup t), 3)
set_option maxRecDepth 100000 in
theorem z_gm_179 {mt : Nat → z_Md} (h : mt 179 = z_md_179) : z_gm z_mi mt 179 := z_okB_ok (o := 14) (vp := 0) (md := (true, [], 3)) (bl := z_B_179) h (fun z => absurd rfl z) (by decide +kernel)
/-- LacedHolesModel.in(III)Z -/
def z_B_180 : z_Bk := [(0, [true, true, true], [(.iload_n 0, 0, 0, 0, 0), (.iload_n 1, 1, 0, 0, 0), (.if_icmp .lt 12, 2, 0, 0, 0), (.iload_n 0, 5, 0, 0, 0), (.iload_n 2, 6, 0, 0, 0), (.if_icmp .gt 7, 7, 0, 0, 0), (.iconst 1, 10, 0, 0, 0), (.goto 4, 11, 0, 0, 0)], 14),
  (14, [false, false, false], [(.iconst 0, 14, 0, 0, 0)], 15),
  (15, [false, false, false], [(.ireturn, 15, 0, 0, 0)], 16)]
def z_md_180 : z_Md := (true, [], (fun t => z_B_180.lookup t), 3)
set_option maxRecDepth 100000 in
theorem z_gm_180 {mt : Nat → z_Md} (h : mt 180 = z_md_180) : z_gm z_mi mt 180 := z_okB_ok (o := 14) (vp := 0) (md := (true, [], 3)) (bl := z_B_180) h (fun z => absurd rfl z) (by decide +kernel)
/-- LacedHolesModel.feed(IIIII)I -/
def z_B_181 : z_Bk := [(0, [true, true, true, true, true, true, false, false], [(.aload_n 0, 0, 0, 0, 0), (.iconst 0, 1, 0, 0, 0), (.putfield 112, 2, 11, 0, 85), (.aload_n 0, 5, 0, 0, 0), (.getfield 115, 6, 11, 1, 86), (.bipush 20, 9, 0, 0, 0), (.iadd, 11, 0, 0, 0), (.sipush 400, 12, 0, 0, 0), (.if_icmp .le 5, 15, 0, 0, 0), (.iconst (-1), 18, 0, 0, 0), (.ireturn, 19, 0, 0, 0)], 20),
  (20, [true, true, true, true, true, true, false, false], [(.iconst 0, 20, 0, 0, 0), (.istore 6, 21, 0, 0, 0)], 23),
  (23, [true, true, true, true, true, true, true, false], [(.iload 6, 23, 0, 0, 0), (.bipush 20, 25, 0, 0, 0), (.if_icmp .ge 93, 27, 0, 0, 0), (.iload 6, 30, 0, 0, 0), (.iconst 4, 32, 0, 0, 0), (.if_icmp .ge 7, 33, 0, 0, 0), (.iload_n 1, 36, 0, 0, 0), (.goto 39, 37, 0, 0, 0)], 40),
  (40, [true, true, true, true, true, true, true, false], [(.iload 6, 40, 0, 0, 0), (.bipush 8, 42, 0, 0, 0), (.if_icmp .ge 7, 44, 0, 0, 0), (.iload_n 2, 47, 0, 0, 0), (.goto 28, 48, 0, 0, 0)], 51),
  (51, [true, true, true, true, true, true, true, false], [(.iload 6, 51, 0, 0, 0), (.bipush 12, 53, 0, 0, 0), (.if_icmp .ge 7, 55, 0, 0, 0), (.iload_n 3, 58, 0, 0, 0), (.goto 17, 59, 0, 0, 0)], 62),
  (62, [true, true, true, true, true, true, true, false], [(.iload 6, 62, 0, 0, 0), (.bipush 16, 64, 0, 0, 0), (.if_icmp .ge 8, 66, 0, 0, 0), (.iload 4, 69, 0, 0, 0), (.goto 5, 71, 0, 0, 0)], 74),
  (74, [true, true, true, true, true, true, true, false], [(.iload 5, 74, 0, 0, 0)], 76),
  (76, [true, true, true, true, true, true, true, false], [(.istore 7, 76, 0, 0, 0), (.aload_n 0, 78, 0, 0, 0), (.getfield 13, 79, 11, 8, 93), (.aload_n 0, 82, 0, 0, 0), (.getfield 115, 83, 11, 1, 86), (.iload 7, 86, 0, 0, 0), (.bipush 24, 88, 0, 0, 0), (.bipush 8, 90, 0, 0, 0), (.iload 6, 92, 0, 0, 0), (.iconst 4, 94, 0, 0, 0), (.irem, 95, 0, 0, 0), (.imul, 96, 0, 0, 0), (.isub, 97, 0, 0, 0), (.ishr, 98, 0, 0, 0), (.sipush 255, 99, 0, 0, 0), (.iand, 102, 0, 0, 0), (.iastore, 103, 0, 0, 0), (.aload_n 0, 104, 0, 0, 0), (.dup, 105, 0, 0, 0), (.getfield 115, 106, 11, 1, 86), (.iconst 1, 109, 0, 0, 0), (.iadd, 110, 0, 0, 0), (.putfield 115, 111, 11, 1, 86), (.iinc 6 1, 114, 0, 0, 0), (.goto (-94), 117, 0, 0, 0)], 120),
  (120, [true, false, false, false, false, false, false, false], [(.aload_n 0, 120, 0, 0, 0), (.getfield 115, 121, 11, 1, 86), (.ireturn, 124, 0, 0, 0)], 125)]
def z_md_181 : z_Md := (false, [], (fun t => z_B_181.lookup t), 8)
set_option maxRecDepth 100000 in
theorem z_gm_181 {mt : Nat → z_Md} (h : mt 181 = z_md_181) : z_gm z_mi mt 181 := z_okB_ok (o := 14) (vp := 0) (md := (false, [], 8)) (bl := z_B_181) h (fun z => absurd rfl z) (by decide +kernel)
/-- LacedHolesModel.byteAt(I)I -/
def z_B_182 : z_Bk := [(0, [true, true], [(.iload_n 1, 0, 0, 0, 0), (.aload_n 0, 1, 0, 0, 0), (.getfield 118, 2, 11, 2, 87), (.if_icmp .lt 7, 5, 0, 0, 0), (.iconst (-1), 8, 0, 0, 0), (.goto 9, 9, 0, 0, 0)], 12),
  (12, [true, true], [(.aload_n 0, 12, 0, 0, 0), (.getfield 13, 13, 11, 8, 93), (.iload_n 1, 16, 0, 0, 0), (.iaload, 17, 0, 0, 0)], 18),
  (18, [false, false], [(.ireturn, 18, 0, 0, 0)], 19)]
def z_md_182 : z_Md := (false, [], (fun t => z_B_182.lookup t), 2)
set_option maxRecDepth 100000 in
theorem z_gm_182 {mt : Nat → z_Md} (h : mt 182 = z_md_182) : z_gm z_mi mt 182 := z_okB_ok (o := 14) (vp := 0) (md := (false, [], 2)) (bl := z_B_182) h (fun z => absurd rfl z) (by decide +kernel)
/-- LacedHolesModel.blanks()V -/
def z_B_183 : z_Bk := [(0, [true], [(.aload_n 0, 0, 0, 0, 0), (.aload_n 0, 1, 0, 0, 0), (.getfield 121, 2, 11, 4, 89), (.invokevirtual 124, 5, 182, 1, 4539), (.bipush 32, 8, 0, 0, 0), (.if_icmp .ne 16, 10, 0, 0, 0), (.aload_n 0, 13, 0, 0, 0), (.dup, 14, 0, 0, 0), (.getfield 121, 15, 11, 4, 89), (.iconst 1, 18, 0, 0, 0), (.iadd, 19, 0, 0, 0), (.putfield 121, 20, 11, 4, 89), (.goto (-23), 23, 0, 0, 0)], 26),
  (26, [false], [(.return_, 26, 0, 0, 0)], 27)]
def z_md_183 : z_Md := (false, [], (fun t => z_B_183.lookup t), 1)
set_option maxRecDepth 100000 in
theorem z_gm_183 {mt : Nat → z_Md} (h : mt 183 = z_md_183) : z_gm z_mi mt 183 := z_okB_ok (o := 14) (vp := 0) (md := (false, [], 1)) (bl := z_B_183) h (fun z => absurd rfl z) (by decide +kernel)
/-- LacedHolesModel.wrong(II)V -/
def z_B_184 : z_Bk := [(0, [true, true, true], [(.aload_n 0, 0, 0, 0, 0), (.getfield 128, 1, 11, 5, 90), (.ifCond .ne 13, 4, 0, 0, 0), (.aload_n 0, 7, 0, 0, 0), (.iload_n 1, 8, 0, 0, 0), (.putfield 128, 9, 11, 5, 90), (.aload_n 0, 12, 0, 0, 0), (.iload_n 2, 13, 0, 0, 0), (.putfield 131, 14, 11, 6, 91)], 17),
  (17, [false, false, false], [(.return_, 17, 0, 0, 0)], 18)]
def z_md_184 : z_Md := (false, [], (fun t => z_B_184.lookup t), 3)
set_option maxRecDepth 100000 in
theorem z_gm_184 {mt : Nat → z_Md} (h : mt 184 = z_md_184) : z_gm z_mi mt 184 := z_okB_ok (o := 14) (vp := 0) (md := (false, [], 3)) (bl := z_B_184) h (fun z => absurd rfl z) (by decide +kernel)
/-- LacedHolesModel.isDigit(I)Z -/
def z_B_185 : z_Bk := [(0, [true], [(.iload_n 0, 0, 0, 0, 0), (.bipush 48, 1, 0, 0, 0), (.if_icmp .lt 13, 3, 0, 0, 0), (.iload_n 0, 6, 0, 0, 0), (.bipush 57, 7, 0, 0, 0), (.if_icmp .gt 7, 9, 0, 0, 0), (.iconst 1, 12, 0, 0, 0), (.goto 4, 13, 0, 0, 0)], 16),
  (16, [false], [(.iconst 0, 16, 0, 0, 0)], 17),
  (17, [false], [(.ireturn, 17, 0, 0, 0)], 18)]
def z_md_185 : z_Md := (true, [], (fun t => z_B_185.lookup t), 1)
set_option maxRecDepth 100000 in
theorem z_gm_185 {mt : Nat → z_Md} (h : mt 185 = z_md_185) : z_gm z_mi mt 185 := z_okB_ok (o := 14) (vp := 0) (md := (true, [], 1)) (bl := z_B_185) h (fun z => absurd rfl z) (by decide +kernel)
/-- LacedHolesModel.digitsHere()I -/
def z_B_186 : z_Bk := [(0, [true, false], [(.iconst 0, 0, 0, 0, 0), (.istore_n 1, 1, 0, 0, 0)], 2),
  (2, [true, true], [(.aload_n 0, 2, 0, 0, 0), (.aload_n 0, 3, 0, 0, 0), (.getfield 121, 4, 11, 4, 89), (.invokevirtual 124, 7, 182, 1, 4539), (.invokestatic 134, 10, 185, 1, 290), (.ifCond .eq 46, 13, 0, 0, 0), (.bipush 10, 16, 0, 0, 0), (.iload_n 1, 18, 0, 0, 0), (.imul, 19, 0, 0, 0), (.aload_n 0, 20, 0, 0, 0), (.aload_n 0, 21, 0, 0, 0), (.getfield 121, 22, 11, 4, 89), (.invokevirtual 124, 25, 182, 1, 4539), (.iadd, 28, 0, 0, 0), (.bipush 48, 29, 0, 0, 0), (.isub, 31, 0, 0, 0), (.istore_n 1, 32, 0, 0, 0), (.iload_n 1, 33, 0, 0, 0), (.ldc 138, 34, 0, 10, 100000), (.if_icmp .le 8, 36, 0, 0, 0), (.ldc 138, 39, 0, 10, 100000), (.goto 4, 41, 0, 0, 0)], 44),
  (44, [true, true], [(.iload_n 1, 44, 0, 0, 0)], 45),
  (45, [true, false], [(.istore_n 1, 45, 0, 0, 0), (.aload_n 0, 46, 0, 0, 0), (.dup, 47, 0, 0, 0), (.getfield 121, 48, 11, 4, 89), (.iconst 1, 51, 0, 0, 0), (.iadd, 52, 0, 0, 0), (.putfield 121, 53, 11, 4, 89), (.goto (-54), 56, 0, 0, 0)], 59),
  (59, [false, true], [(.iload_n 1, 59, 0, 0, 0), (.ireturn, 60, 0, 0, 0)], 61)]
def z_md_186 : z_Md := (false, [], (fun t => z_B_186.lookup t), 2)
set_option maxRecDepth 100000 in
theorem z_gm_186 {mt : Nat → z_Md} (h : mt 186 = z_md_186) : z_gm z_mi mt 186 := z_okB_ok (o := 14) (vp := 0) (md := (false, [], 2)) (bl := z_B_186) h (fun z => absurd rfl z) (by decide +kernel)
/-- LacedHolesModel.reads(II)I -/
def z_B_187 : z_Bk := [(0, [true, true, true, false, false], [(.aload_n 0, 0, 0, 0, 0), (.getfield 128, 1, 11, 5, 90), (.ifCond .eq 5, 4, 0, 0, 0), (.iconst 0, 7, 0, 0, 0), (.ireturn, 8, 0, 0, 0)], 9),
  (9, [true, true, true, false, false], [(.aload_n 0, 9, 0, 0, 0), (.invokevirtual 139, 10, 183, 0, 4523), (.aload_n 0, 13, 0, 0, 0), (.getfield 121, 14, 11, 4, 89), (.istore_n 3, 17, 0, 0, 0), (.aload_n 0, 18, 0, 0, 0), (.aload_n 0, 19, 0, 0, 0), (.getfield 121, 20, 11, 4, 89), (.invokevirtual 124, 23, 182, 1, 4539), (.invokestatic 134, 26, 185, 1, 290), (.ifCond .ne 12, 29, 0, 0, 0), (.aload_n 0, 32, 0, 0, 0), (.iconst 1, 33, 0, 0, 0), (.aload_n 0, 34, 0, 0, 0), (.getfield 121, 35, 11, 4, 89), (.invokevirtual 142, 38, 184, 2, 4619)], 41),
  (41, [true, true, true, true, false], [(.aload_n 0, 41, 0, 0, 0), (.invokevirtual 146, 42, 186, 0, 4667), (.istore 4, 45, 0, 0, 0), (.iload 4, 47, 0, 0, 0), (.iload_n 1, 49, 0, 0, 0), (.iload_n 2, 50, 0, 0, 0), (.invokestatic 150, 51, 180, 3, 279), (.ifCond .ne 9, 54, 0, 0, 0), (.aload_n 0, 57, 0, 0, 0), (.iconst 2, 58, 0, 0, 0), (.iload_n 3, 59, 0, 0, 0), (.invokevirtual 142, 60, 184, 2, 4619)], 63),
  (63, [true, false, false, false, true], [(.aload_n 0, 63, 0, 0, 0), (.getfield 128, 64, 11, 5, 90), (.ifCond .ne 8, 67, 0, 0, 0), (.iload 4, 70, 0, 0, 0), (.goto 4, 72, 0, 0, 0)], 75),
  (75, [false, false, false, false, false], [(.iconst 0, 75, 0, 0, 0)], 76),
  (76, [false, false, false, false, false], [(.ireturn, 76, 0, 0, 0)], 77)]
def z_md_187 : z_Md := (false, [], (fun t => z_B_187.lookup t), 5)
set_option maxRecDepth 100000 in
theorem z_gm_187 {mt : Nat → z_Md} (h : mt 187 = z_md_187) : z_gm z_mi mt 187 := z_okB_ok (o := 14) (vp := 0) (md := (false, [], 5)) (bl := z_B_187) h (fun z => absurd rfl z) (by decide +kernel)
/-- LacedHolesModel.wordHere()I -/
def z_B_188 : z_Bk := [(0, [true, false, false], [(.aload_n 0, 0, 0, 0, 0), (.invokevirtual 139, 1, 183, 0, 4523), (.iconst 0, 4, 0, 0, 0), (.istore_n 1, 5, 0, 0, 0), (.iconst 0, 6, 0, 0, 0), (.istore_n 2, 7, 0, 0, 0)], 8),
  (8, [true, true, true], [(.aload_n 0, 8, 0, 0, 0), (.aload_n 0, 9, 0, 0, 0), (.getfield 121, 10, 11, 4, 89), (.iload_n 2, 13, 0, 0, 0), (.iadd, 14, 0, 0, 0), (.invokevirtual 124, 15, 182, 1, 4539), (.bipush 97, 18, 0, 0, 0), (.if_icmp .lt 55, 20, 0, 0, 0), (.aload_n 0, 23, 0, 0, 0), (.aload_n 0, 24, 0, 0, 0), (.getfield 121, 25, 11, 4, 89), (.iload_n 2, 28, 0, 0, 0), (.iadd, 29, 0, 0, 0), (.invokevirtual 124, 30, 182, 1, 4539), (.bipush 122, 33, 0, 0, 0), (.if_icmp .gt 40, 35, 0, 0, 0), (.iload_n 2, 38, 0, 0, 0), (.bipush 6, 39, 0, 0, 0), (.if_icmp .ge 26, 41, 0, 0, 0), (.bipush 27, 44, 0, 0, 0), (.iload_n 1, 46, 0, 0, 0), (.imul, 47, 0, 0, 0), (.aload_n 0, 48, 0, 0, 0), (.aload_n 0, 49, 0, 0, 0), (.getfield 121, 50, 11, 4, 89), (.iload_n 2, 53, 0, 0, 0), (.iadd, 54, 0, 0, 0), (.invokevirtual 124, 55, 182, 1, 4539), (.iadd, 58, 0, 0, 0), (.bipush 97, 59, 0, 0, 0), (.isub, 61, 0, 0, 0), (.iconst 1, 62, 0, 0, 0), (.iadd, 63, 0, 0, 0), (.goto 4, 64, 0, 0, 0)], 67),
  (67, [true, true, true], [(.iload_n 1, 67, 0, 0, 0)], 68),
  (68, [true, false, true], [(.istore_n 1, 68, 0, 0, 0), (.iinc 2 1, 69, 0, 0, 0), (.goto (-64), 72, 0, 0, 0)], 75),
  (75, [false, true, true], [(.iload_n 2, 75, 0, 0, 0), (.bipush 6, 76, 0, 0, 0), (.if_icmp .le 7, 78, 0, 0, 0), (.iconst (-1), 81, 0, 0, 0), (.goto 4, 82, 0, 0, 0)], 85),
  (85, [false, true, false], [(.iload_n 1, 85, 0, 0, 0)], 86),
  (86, [false, false, false], [(.ireturn, 86, 0, 0, 0)], 87)]
def z_md_188 : z_Md := (false, [], (fun t => z_B_188.lookup t), 3)
set_option maxRecDepth 100000 in
theorem z_gm_188 {mt : Nat → z_Md} (h : mt 188 = z_md_188) : z_gm z_mi mt 188 := z_okB_ok (o := 14) (vp := 0) (md := (false, [], 3)) (bl := z_B_188) h (fun z => absurd rfl z) (by decide +kernel)
/-- LacedHolesModel.five(IIIII)I -/
def z_B_189 : z_Bk := [(0, [true, true, true, true, true, false], [(.bipush 27, 0, 0, 0, 0), (.bipush 27, 2, 0, 0, 0), (.iload_n 0, 4, 0, 0, 0), (.imul, 5, 0, 0, 0), (.iload_n 1, 6, 0, 0, 0), (.iadd, 7, 0, 0, 0), (.imul, 8, 0, 0, 0), (.iload_n 2, 9, 0, 0, 0), (.iadd, 10, 0, 0, 0), (.istore 5, 11, 0, 0, 0), (.iload_n 3, 13, 0, 0, 0), (.ifCond .ne 8, 14, 0, 0, 0), (.iload 5, 17, 0, 0, 0), (.goto 10, 19, 0, 0, 0)], 22),
  (22, [false, false, false, true, true, true], [(.bipush 27, 22, 0, 0, 0), (.iload 5, 24, 0, 0, 0), (.imul, 26, 0, 0, 0), (.iload_n 3, 27, 0, 0, 0), (.iadd, 28, 0, 0, 0)], 29),
  (29, [false, false, false, false, true, false], [(.istore 5, 29, 0, 0, 0), (.iload 4, 31, 0, 0, 0), (.ifCond .ne 8, 33, 0, 0, 0), (.iload 5, 36, 0, 0, 0), (.goto 11, 38, 0, 0, 0)], 41),
  (41, [false, false, false, false, true, true], [(.bipush 27, 41, 0, 0, 0), (.iload 5, 43, 0, 0, 0), (.imul, 45, 0, 0, 0), (.iload 4, 46, 0, 0, 0), (.iadd, 48, 0, 0, 0)], 49),
  (49, [false, false, false, false, false, false], [(.ireturn, 49, 0, 0, 0)], 50)]
def z_md_189 : z_Md := (false, [], (fun t => z_B_189.lookup t), 6)
set_option maxRecDepth 100000 in
theorem z_gm_189 {mt : Nat → z_Md} (h : mt 189 = z_md_189) : z_gm z_mi mt 189 := z_okB_ok (o := 14) (vp := 0) (md := (false, [], 6)) (bl := z_B_189) h (fun z => absurd rfl z) (by decide +kernel)
/-- LacedHolesModel.isWord(IIIII)Z -/
def z_B_190 : z_Bk := [(0, [true, true, true, true, true, true], [(.aload_n 0, 0, 0, 0, 0), (.getfield 128, 1, 11, 5, 90), (.ifCond .ne 24, 4, 0, 0, 0), (.aload_n 0, 7, 0, 0, 0), (.invokevirtual 154, 8, 188, 0, 4587), (.iload_n 1, 11, 0, 0, 0), (.iload_n 2, 12, 0, 0, 0), (.iload_n 3, 13, 0, 0, 0), (.iload 4, 14, 0, 0, 0), (.iload 5, 16, 0, 0, 0), (.invokestatic 157, 18, 189, 5, 287), (.if_icmp .ne 7, 21, 0, 0, 0), (.iconst 1, 24, 0, 0, 0), (.goto 4, 25, 0, 0, 0)], 28),
  (28, [false, false, false, false, false, false], [(.iconst 0, 28, 0, 0, 0)], 29),
  (29, [false, false, false, false, false, false], [(.ireturn, 29, 0, 0, 0)], 30)]
def z_md_190 : z_Md := (true, [], (fun t => z_B_190.lookup t), 6)
set_option maxRecDepth 100000 in
theorem z_gm_190 {mt : Nat → z_Md} (h : mt 190 = z_md_190) : z_gm z_mi mt 190 := z_okB_ok (o := 14) (vp := 0) (md := (true, [], 6)) (bl := z_B_190) h (fun z => absurd rfl z) (by decide +kernel)
/-- LacedHolesModel.starts(I)V -/
def z_B_191 : z_Bk := [(0, [true, true], [(.aload_n 0, 0, 0, 0, 0), (.iconst 0, 1, 0, 0, 0), (.putfield 115, 2, 11, 1, 86), (.aload_n 0, 5, 0, 0, 0), (.iload_n 1, 6, 0, 0, 0), (.putfield 118, 7, 11, 2, 87), (.aload_n 0, 10, 0, 0, 0), (.iconst 0, 11, 0, 0, 0), (.putfield 121, 12, 11, 4, 89), (.aload_n 0, 15, 0, 0, 0), (.iconst 0, 16, 0, 0, 0), (.putfield 128, 17, 11, 5, 90), (.aload_n 0, 20, 0, 0, 0), (.iconst (-1), 21, 0, 0, 0), (.putfield 131, 22, 11, 6, 91), (.aload_n 0, 25, 0, 0, 0), (.iconst 0, 26, 0, 0, 0), (.putfield 161, 27, 11, 7, 92), (.aload_n 0, 30, 0, 0, 0), (.invokevirtual 139, 31, 183, 0, 4523), (.return_, 34, 0, 0, 0)], 35)]
def z_md_191 : z_Md := (false, [], (fun t => z_B_191.lookup t), 2)
set_option maxRecDepth 100000 in
theorem z_gm_191 {mt : Nat → z_Md} (h : mt 191 = z_md_191) : z_gm z_mi mt 191 := z_okB_ok (o := 14) (vp := 0) (md := (false, [], 2)) (bl := z_B_191) h (fun z => absurd rfl z) (by decide +kernel)
/-- LacedHolesModel.clause()V -/
def z_B_192 : z_Bk := [(0, [true, false], [(.aload_n 0, 0, 0, 0, 0), (.bipush 18, 1, 0, 0, 0), (.bipush 15, 3, 0, 0, 0), (.bipush 23, 5, 0, 0, 0), (.bipush 19, 7, 0, 0, 0), (.iconst 0, 9, 0, 0, 0), (.invokevirtual 164, 10, 190, 5, 4571), (.ifCond .eq 7, 13, 0, 0, 0), (.iconst 0, 16, 0, 0, 0), (.goto 79, 17, 0, 0, 0)], 20),
  (20, [true, false], [(.aload_n 0, 20, 0, 0, 0), (.iconst 1, 21, 0, 0, 0), (.bipush 16, 22, 0, 0, 0), (.iconst 1, 24, 0, 0, 0), (.bipush 18, 25, 0, 0, 0), (.bipush 20, 27, 0, 0, 0), (.invokevirtual 164, 29, 190, 5, 4571), (.ifCond .eq 7, 32, 0, 0, 0), (.iconst 2, 35, 0, 0, 0), (.goto 60, 36, 0, 0, 0)], 39),
  (39, [true, false], [(.aload_n 0, 39, 0, 0, 0), (.bipush 12, 40, 0, 0, 0), (.iconst 1, 42, 0, 0, 0), (.bipush 23, 43, 0, 0, 0), (.iconst 0, 45, 0, 0, 0), (.iconst 0, 46, 0, 0, 0), (.invokevirtual 164, 47, 190, 5, 4571), (.ifCond .eq 7, 50, 0, 0, 0), (.iconst 4, 53, 0, 0, 0), (.goto 42, 54, 0, 0, 0)], 57),
  (57, [true, false], [(.aload_n 0, 57, 0, 0, 0), (.bipush 12, 58, 0, 0, 0), (.iconst 1, 60, 0, 0, 0), (.iconst 3, 61, 0, 0, 0), (.iconst 5, 62, 0, 0, 0), (.iconst 0, 63, 0, 0, 0), (.invokevirtual 164, 64, 190, 5, 4571), (.ifCond .eq 7, 67, 0, 0, 0), (.iconst 5, 70, 0, 0, 0), (.goto 25, 71, 0, 0, 0)], 74),
  (74, [true, false], [(.aload_n 0, 74, 0, 0, 0), (.bipush 20, 75, 0, 0, 0), (.bipush 15, 77, 0, 0, 0), (.bipush 18, 79, 0, 0, 0), (.bipush 14, 81, 0, 0, 0), (.iconst 0, 83, 0, 0, 0), (.invokevirtual 164, 84, 190, 5, 4571), (.ifCond .eq 8, 87, 0, 0, 0), (.bipush 6, 90, 0, 0, 0), (.goto 4, 92, 0, 0, 0)], 95),
  (95, [true, false], [(.iconst (-1), 95, 0, 0, 0)], 96),
  (96, [true, false], [(.istore_n 1, 96, 0, 0, 0), (.iload_n 1, 97, 0, 0, 0), (.iconst (-1), 98, 0, 0, 0), (.if_icmp .ne 15, 99, 0, 0, 0), (.aload_n 0, 102, 0, 0, 0), (.iconst 1, 103, 0, 0, 0), (.aload_n 0, 104, 0, 0, 0), (.getfield 121, 105, 11, 4, 89), (.invokevirtual 142, 108, 184, 2, 4619), (.goto 44, 111, 0, 0, 0)], 114),
  (114, [true, true], [(.aload_n 0, 114, 0, 0, 0), (.getfield 161, 115, 11, 7, 92), (.bipush 40, 118, 0, 0, 0), (.if_icmp .ne 15, 120, 0, 0, 0), (.aload_n 0, 123, 0, 0, 0), (.iconst 3, 124, 0, 0, 0), (.aload_n 0, 125, 0, 0, 0), (.getfield 121, 126, 11, 4, 89), (.invokevirtual 142, 129, 184, 2, 4619), (.goto 23, 132, 0, 0, 0)], 135),
  (135, [true, true], [(.iload_n 1, 135, 0, 0, 0), (.ifCond .ne 19, 136, 0, 0, 0), (.aload_n 0, 139, 0, 0, 0), (.getfield 161, 140, 11, 7, 92), (.ifCond .le 12, 143, 0, 0, 0), (.aload_n 0, 146, 0, 0, 0), (.iconst 4, 147, 0, 0, 0), (.aload_n 0, 148, 0, 0, 0), (.getfield 121, 149, 11, 4, 89), (.invokevirtual 142, 152, 184, 2, 4619)], 155),
  (155, [true, true], [(.aload_n 0, 155, 0, 0, 0), (.getfield 128, 156, 11, 5, 90), (.ifCond .eq 4, 159, 0, 0, 0), (.return_, 162, 0, 0, 0)], 163),
  (163, [true, true], [(.aload_n 0, 163, 0, 0, 0), (.aload_n 0, 164, 0, 0, 0), (.getfield 121, 165, 11, 4, 89), (.invokevirtual 124, 168, 182, 1, 4539), (.bipush 97, 171, 0, 0, 0), (.if_icmp .lt 29, 173, 0, 0, 0), (.aload_n 0, 176, 0, 0, 0), (.aload_n 0, 177, 0, 0, 0), (.getfield 121, 178, 11, 4, 89), (.invokevirtual 124, 181, 182, 1, 4539), (.bipush 122, 184, 0, 0, 0), (.if_icmp .gt 16, 186, 0, 0, 0), (.aload_n 0, 189, 0, 0, 0), (.dup, 190, 0, 0, 0), (.getfield 121, 191, 11, 4, 89), (.iconst 1, 194, 0, 0, 0), (.iadd, 195, 0, 0, 0), (.putfield 121, 196, 11, 4, 89), (.goto (-36), 199, 0, 0, 0)], 202),
  (202, [true, true], [(.aload_n 0, 202, 0, 0, 0), (.dup, 203, 0, 0, 0), (.getfield 161, 204, 11, 7, 92), (.iconst 1, 207, 0, 0, 0), (.iadd, 208, 0, 0, 0), (.putfield 161, 209, 11, 7, 92), (.iload_n 1, 212, 0, 0, 0), (.ifCond .ne 32, 213, 0, 0, 0), (.aload_n 0, 216, 0, 0, 0), (.getfield 17, 217, 11, 9, 94), (.iconst 0, 220, 0, 0, 0), (.aload_n 0, 221, 0, 0, 0), (.iconst 1, 222, 0, 0, 0), (.bipush 6, 223, 0, 0, 0), (.invokevirtual 168, 225, 187, 2, 4635), (.iastore, 228, 0, 0, 0), (.aload_n 0, 229, 0, 0, 0), (.getfield 17, 230, 11, 9, 94), (.iconst 1, 233, 0, 0, 0), (.aload_n 0, 234, 0, 0, 0), (.iconst 1, 235, 0, 0, 0), (.bipush 6, 236, 0, 0, 0), (.invokevirtual 168, 238, 187, 2, 4635), (.iastore, 241, 0, 0, 0), (.goto 111, 242, 0, 0, 0)], 245),
  (245, [true, true], [(.iload_n 1, 245, 0, 0, 0), (.iconst 2, 246, 0, 0, 0), (.if_icmp .ne 32, 247, 0, 0, 0), (.aload_n 0, 250, 0, 0, 0), (.getfield 17, 251, 11, 9, 94), (.iconst 2, 254, 0, 0, 0), (.aload_n 0, 255, 0, 0, 0), (.iconst 1, 256, 0, 0, 0), (.bipush 99, 257, 0, 0, 0), (.invokevirtual 168, 259, 187, 2, 4635), (.iastore, 262, 0, 0, 0), (.aload_n 0, 263, 0, 0, 0), (.getfield 17, 264, 11, 9, 94), (.iconst 3, 267, 0, 0, 0), (.aload_n 0, 268, 0, 0, 0), (.iconst 1, 269, 0, 0, 0), (.bipush 99, 270, 0, 0, 0), (.invokevirtual 168, 272, 187, 2, 4635), (.iastore, 275, 0, 0, 0), (.goto 77, 276, 0, 0, 0)], 279),
  (279, [true, true], [(.iload_n 1, 279, 0, 0, 0), (.iconst 4, 280, 0, 0, 0), (.if_icmp .ne 18, 281, 0, 0, 0), (.aload_n 0, 284, 0, 0, 0), (.getfield 17, 285, 11, 9, 94), (.iconst 4, 288, 0, 0, 0), (.aload_n 0, 289, 0, 0, 0), (.iconst 0, 290, 0, 0, 0), (.iconst 2, 291, 0, 0, 0), (.invokevirtual 168, 292, 187, 2, 4635), (.iastore, 295, 0, 0, 0), (.goto 57, 296, 0, 0, 0)], 299),
  (299, [true, true], [(.iload_n 1, 299, 0, 0, 0), (.iconst 5, 300, 0, 0, 0), (.if_icmp .ne 20, 301, 0, 0, 0), (.aload_n 0, 304, 0, 0, 0), (.getfield 17, 305, 11, 9, 94), (.iconst 5, 308, 0, 0, 0), (.aload_n 0, 309, 0, 0, 0), (.iconst 1, 310, 0, 0, 0), (.sipush 9999, 311, 0, 0, 0), (.invokevirtual 168, 314, 187, 2, 4635), (.iastore, 317, 0, 0, 0), (.goto 35, 318, 0, 0, 0)], 321),
  (321, [true, false], [(.aload_n 0, 321, 0, 0, 0), (.getfield 17, 322, 11, 9, 94), (.bipush 6, 325, 0, 0, 0), (.dup2, 327, 0, 0, 0), (.iaload, 328, 0, 0, 0), (.iconst 1, 329, 0, 0, 0), (.aload_n 0, 330, 0, 0, 0), (.iconst 0, 331, 0, 0, 0), (.aload_n 0, 332, 0, 0, 0), (.getfield 17, 333, 11, 9, 94), (.iconst 0, 336, 0, 0, 0), (.iaload, 337, 0, 0, 0), (.aload_n 0, 338, 0, 0, 0), (.getfield 17, 339, 11, 9, 94), (.iconst 1, 342, 0, 0, 0), (.iaload, 343, 0, 0, 0), (.iadd, 344, 0, 0, 0), (.iconst 1, 345, 0, 0, 0), (.isub, 346, 0, 0, 0), (.invokevirtual 168, 347, 187, 2, 4635), (.ishl, 350, 0, 0, 0), (.ior, 351, 0, 0, 0), (.iastore, 352, 0, 0, 0)], 353),
  (353, [true, false], [(.aload_n 0, 353, 0, 0, 0), (.getfield 128, 354, 11, 5, 90), (.ifCond .eq 4, 357, 0, 0, 0), (.return_, 360, 0, 0, 0)], 361),
  (361, [true, false], [(.aload_n 0, 361, 0, 0, 0), (.invokevirtual 139, 362, 183, 0, 4523), (.aload_n 0, 365, 0, 0, 0), (.aload_n 0, 366, 0, 0, 0), (.getfield 121, 367, 11, 4, 89), (.invokevirtual 124, 370, 182, 1, 4539), (.bipush 59, 373, 0, 0, 0), (.if_icmp .ne 16, 375, 0, 0, 0), (.aload_n 0, 378, 0, 0, 0), (.dup, 379, 0, 0, 0), (.getfield 121, 380, 11, 4, 89), (.iconst 1, 383, 0, 0, 0), (.iadd, 384, 0, 0, 0), (.putfield 121, 385, 11, 4, 89), (.goto 12, 388, 0, 0, 0)], 391),
  (391, [true, false], [(.aload_n 0, 391, 0, 0, 0), (.iconst 1, 392, 0, 0, 0), (.aload_n 0, 393, 0, 0, 0), (.getfield 121, 394, 11, 4, 89), (.invokevirtual 142, 397, 184, 2, 4619)], 400),
  (400, [false, false], [(.return_, 400, 0, 0, 0)], 401)]
def z_md_192 : z_Md := (false, [], (fun t => z_B_192.lookup t), 2)
set_option maxRecDepth 100000 in
theorem z_gm_192 {mt : Nat → z_Md} (h : mt 192 = z_md_192) : z_gm z_mi mt 192 := z_okB_ok (o := 14) (vp := 0) (md := (false, [], 2)) (bl := z_B_192) h (fun z => absurd rfl z) (by decide +kernel)
