/-! ===== the methods' texts, checked (3) ===== -/
/-- LacedHolesModel.boot(I)I -/
def z_B_193 : z_Bk := [(0, [true, true], [(.aload_n 0, 0, 0, 0, 0), (.iconst 0, 1, 0, 0, 0), (.putfield 112, 2, 11, 0, 85), (.aload_n 0, 5, 0, 0, 0), (.iload_n 1, 6, 0, 0, 0), (.iconst 0, 7, 0, 0, 0), (.aload_n 0, 8, 0, 0, 0), (.getfield 115, 9, 11, 1, 86), (.invokestatic 150, 12, 180, 3, 279), (.ifCond .ne 7, 15, 0, 0, 0), (.iconst 1, 18, 0, 0, 0), (.goto 4, 19, 0, 0, 0)], 22),
  (22, [true, true], [(.iconst 0, 22, 0, 0, 0)], 23),
  (23, [true, true], [(.iconst 1, 23, 0, 0, 0), (.invokevirtual 172, 24, 179, 2, 4491), (.ifCond .eq 5, 27, 0, 0, 0), (.iconst 0, 30, 0, 0, 0), (.ireturn, 31, 0, 0, 0)], 32),
  (32, [true, true], [(.aload_n 0, 32, 0, 0, 0), (.iload_n 1, 33, 0, 0, 0), (.invokevirtual 176, 34, 191, 1, 4507), (.aload_n 0, 37, 0, 0, 0), (.invokevirtual 106, 38, 177, 0, 4283)], 41),
  (41, [true, false], [(.aload_n 0, 41, 0, 0, 0), (.getfield 128, 42, 11, 5, 90), (.ifCond .ne 25, 45, 0, 0, 0), (.aload_n 0, 48, 0, 0, 0), (.getfield 121, 49, 11, 4, 89), (.aload_n 0, 52, 0, 0, 0), (.getfield 118, 53, 11, 2, 87), (.if_icmp .ge 14, 56, 0, 0, 0), (.aload_n 0, 59, 0, 0, 0), (.invokevirtual 180, 60, 192, 0, 4555), (.aload_n 0, 63, 0, 0, 0), (.invokevirtual 139, 64, 183, 0, 4523), (.goto (-26), 67, 0, 0, 0)], 70),
  (70, [true, false], [(.aload_n 0, 70, 0, 0, 0), (.aload_n 0, 71, 0, 0, 0), (.getfield 131, 72, 11, 6, 91), (.putfield 9, 75, 11, 3, 88), (.aload_n 0, 78, 0, 0, 0), (.getfield 128, 79, 11, 5, 90), (.ifCond .eq 11, 82, 0, 0, 0), (.aload_n 0, 85, 0, 0, 0), (.getfield 128, 86, 11, 5, 90), (.bipush 10, 89, 0, 0, 0), (.isub, 91, 0, 0, 0), (.ireturn, 92, 0, 0, 0)], 93),
  (93, [true, false], [(.aload_n 0, 93, 0, 0, 0), (.invokevirtual 109, 94, 194, 0, 4299), (.aload_n 0, 97, 0, 0, 0), (.invokevirtual 183, 98, 200, 0, 4683), (.invokestatic 186, 101, 201, 1, 294), (.ireturn, 104, 0, 0, 0)], 105)]
def z_md_193 : z_Md := (false, [], (fun t => z_B_193.lookup t), 2)
set_option maxRecDepth 100000 in
theorem z_gm_193 {mt : Nat → z_Md} (h : mt 193 = z_md_193) : z_gm z_mi mt 193 := z_okB_ok (o := 14) (vp := 0) (md := (false, [], 2)) (bl := z_B_193) h (fun z => absurd rfl z) (by decide +kernel)
/-- LacedHolesModel.stands()V -/
def z_B_194 : z_Bk := [(0, [true, false], [(.iconst 0, 0, 0, 0, 0), (.istore_n 1, 1, 0, 0, 0)], 2),
  (2, [true, true], [(.iload_n 1, 2, 0, 0, 0), (.bipush 7, 3, 0, 0, 0), (.if_icmp .ge 21, 5, 0, 0, 0), (.aload_n 0, 8, 0, 0, 0), (.getfield 20, 9, 11, 10, 95), (.iload_n 1, 12, 0, 0, 0), (.aload_n 0, 13, 0, 0, 0), (.getfield 17, 14, 11, 9, 94), (.iload_n 1, 17, 0, 0, 0), (.iaload, 18, 0, 0, 0), (.iastore, 19, 0, 0, 0), (.iinc 1 1, 20, 0, 0, 0), (.goto (-21), 23, 0, 0, 0)], 26),
  (26, [true, false], [(.aload_n 0, 26, 0, 0, 0), (.iconst 0, 27, 0, 0, 0), (.putfield 189, 28, 11, 13, 98), (.aload_n 0, 31, 0, 0, 0), (.iconst 0, 32, 0, 0, 0), (.putfield 192, 33, 11, 14, 99), (.aload_n 0, 36, 0, 0, 0), (.iconst 0, 37, 0, 0, 0), (.putfield 195, 38, 11, 15, 100), (.aload_n 0, 41, 0, 0, 0), (.iconst 0, 42, 0, 0, 0), (.putfield 198, 43, 11, 16, 101), (.iconst 1, 46, 0, 0, 0), (.istore_n 1, 47, 0, 0, 0)], 48),
  (48, [true, true], [(.iload_n 1, 48, 0, 0, 0), (.iconst 5, 49, 0, 0, 0), (.if_icmp .gt 14, 50, 0, 0, 0), (.aload_n 0, 53, 0, 0, 0), (.iload_n 1, 54, 0, 0, 0), (.invokevirtual 201, 55, 202, 1, 4315), (.iinc 1 1, 58, 0, 0, 0), (.goto (-13), 61, 0, 0, 0)], 64),
  (64, [false, false], [(.return_, 64, 0, 0, 0)], 65)]
def z_md_194 : z_Md := (false, [], (fun t => z_B_194.lookup t), 2)
set_option maxRecDepth 100000 in
theorem z_gm_194 {mt : Nat → z_Md} (h : mt 194 = z_md_194) : z_gm z_mi mt 194 := z_okB_ok (o := 14) (vp := 0) (md := (false, [], 2)) (bl := z_B_194) h (fun z => absurd rfl z) (by decide +kernel)
/-- LacedHolesModel.way(I)I -/
def z_B_195 : z_Bk := [(0, [true, true, false, false, false, false], [(.aload_n 0, 0, 0, 0, 0), (.iconst 0, 1, 0, 0, 0), (.putfield 112, 2, 11, 0, 85), (.aload_n 0, 5, 0, 0, 0), (.iload_n 1, 6, 0, 0, 0), (.iconst 0, 7, 0, 0, 0), (.aload_n 0, 8, 0, 0, 0), (.getfield 115, 9, 11, 1, 86), (.invokestatic 150, 12, 180, 3, 279), (.ifCond .eq 9, 15, 0, 0, 0), (.iload_n 1, 18, 0, 0, 0), (.bipush 100, 19, 0, 0, 0), (.if_icmp .le 7, 21, 0, 0, 0)], 24),
  (24, [true, true, false, false, false, false], [(.iconst 1, 24, 0, 0, 0), (.goto 4, 25, 0, 0, 0)], 28),
  (28, [true, true, false, false, false, false], [(.iconst 0, 28, 0, 0, 0)], 29),
  (29, [true, true, false, false, false, false], [(.iconst 1, 29, 0, 0, 0), (.invokevirtual 172, 30, 179, 2, 4491), (.ifCond .eq 5, 33, 0, 0, 0), (.iconst 0, 36, 0, 0, 0), (.ireturn, 37, 0, 0, 0)], 38),
  (38, [true, true, false, false, false, false], [(.aload_n 0, 38, 0, 0, 0), (.iload_n 1, 39, 0, 0, 0), (.invokevirtual 176, 40, 191, 1, 4507), (.iconst 0, 43, 0, 0, 0), (.istore_n 2, 44, 0, 0, 0), (.aload_n 0, 45, 0, 0, 0), (.getfield 20, 46, 11, 10, 95), (.bipush 6, 49, 0, 0, 0), (.iaload, 51, 0, 0, 0), (.istore_n 3, 52, 0, 0, 0)], 53),
  (53, [true, false, true, true, false, false], [(.aload_n 0, 53, 0, 0, 0), (.getfield 128, 54, 11, 5, 90), (.ifCond .ne 165, 57, 0, 0, 0), (.aload_n 0, 60, 0, 0, 0), (.getfield 121, 61, 11, 4, 89), (.aload_n 0, 64, 0, 0, 0), (.getfield 118, 65, 11, 2, 87), (.if_icmp .ge 154, 68, 0, 0, 0), (.aload_n 0, 71, 0, 0, 0), (.getfield 121, 72, 11, 4, 89), (.istore 4, 75, 0, 0, 0), (.aload_n 0, 77, 0, 0, 0), (.aload_n 0, 78, 0, 0, 0), (.getfield 121, 79, 11, 4, 89), (.invokevirtual 124, 82, 182, 1, 4539), (.invokestatic 134, 85, 185, 1, 290), (.ifCond .ne 12, 88, 0, 0, 0), (.aload_n 0, 91, 0, 0, 0), (.iconst 1, 92, 0, 0, 0), (.aload_n 0, 93, 0, 0, 0), (.getfield 121, 94, 11, 4, 89), (.invokevirtual 142, 97, 184, 2, 4619)], 100),
  (100, [true, false, true, true, true, false], [(.aload_n 0, 100, 0, 0, 0), (.invokevirtual 146, 101, 186, 0, 4667), (.istore 5, 104, 0, 0, 0), (.iload 5, 106, 0, 0, 0), (.iconst 0, 108, 0, 0, 0), (.aload_n 0, 109, 0, 0, 0), (.invokevirtual 204, 110, 199, 0, 4699), (.iconst 1, 113, 0, 0, 0), (.isub, 114, 0, 0, 0), (.invokestatic 150, 115, 180, 3, 279), (.ifCond .eq 13, 118, 0, 0, 0), (.iload_n 3, 121, 0, 0, 0), (.iload 5, 122, 0, 0, 0), (.ishr, 124, 0, 0, 0), (.iconst 1, 125, 0, 0, 0), (.iand, 126, 0, 0, 0), (.iconst 1, 127, 0, 0, 0), (.if_icmp .ne 13, 128, 0, 0, 0)], 131),
  (131, [true, false, true, true, true, true], [(.aload_n 0, 131, 0, 0, 0), (.iconst 2, 132, 0, 0, 0), (.iload 4, 133, 0, 0, 0), (.invokevirtual 142, 135, 184, 2, 4619), (.goto 16, 138, 0, 0, 0)], 141),
  (141, [true, false, true, true, true, true], [(.iload_n 2, 141, 0, 0, 0), (.bipush 12, 142, 0, 0, 0), (.if_icmp .ne 10, 144, 0, 0, 0), (.aload_n 0, 147, 0, 0, 0), (.iconst 3, 148, 0, 0, 0), (.iload 4, 149, 0, 0, 0), (.invokevirtual 142, 151, 184, 2, 4619)], 154),
  (154, [true, false, true, true, false, true], [(.aload_n 0, 154, 0, 0, 0), (.getfield 128, 155, 11, 5, 90), (.ifCond .eq 6, 158, 0, 0, 0), (.goto 61, 161, 0, 0, 0)], 164),
  (164, [true, false, true, true, false, true], [(.aload_n 0, 164, 0, 0, 0), (.getfield 23, 165, 11, 11, 96), (.iload_n 2, 168, 0, 0, 0), (.iload 5, 169, 0, 0, 0), (.iastore, 171, 0, 0, 0), (.iload_n 3, 172, 0, 0, 0), (.iconst 1, 173, 0, 0, 0), (.iload 5, 174, 0, 0, 0), (.ishl, 176, 0, 0, 0), (.ior, 177, 0, 0, 0), (.istore_n 3, 178, 0, 0, 0), (.iinc 2 1, 179, 0, 0, 0), (.aload_n 0, 182, 0, 0, 0), (.getfield 121, 183, 11, 4, 89), (.aload_n 0, 186, 0, 0, 0), (.getfield 118, 187, 11, 2, 87), (.if_icmp .ge 25, 190, 0, 0, 0), (.aload_n 0, 193, 0, 0, 0), (.aload_n 0, 194, 0, 0, 0), (.getfield 121, 195, 11, 4, 89), (.invokevirtual 124, 198, 182, 1, 4539), (.bipush 32, 201, 0, 0, 0), (.if_icmp .eq 12, 203, 0, 0, 0), (.aload_n 0, 206, 0, 0, 0), (.iconst 1, 207, 0, 0, 0), (.aload_n 0, 208, 0, 0, 0), (.getfield 121, 209, 11, 4, 89), (.invokevirtual 142, 212, 184, 2, 4619)], 215),
  (215, [true, false, true, true, false, false], [(.aload_n 0, 215, 0, 0, 0), (.invokevirtual 139, 216, 183, 0, 4523), (.goto (-166), 219, 0, 0, 0)], 222),
  (222, [true, false, true, false, false, false], [(.aload_n 0, 222, 0, 0, 0), (.getfield 128, 223, 11, 5, 90), (.ifCond .ne 17, 226, 0, 0, 0), (.iload_n 2, 229, 0, 0, 0), (.iconst 3, 230, 0, 0, 0), (.if_icmp .ge 12, 231, 0, 0, 0), (.aload_n 0, 234, 0, 0, 0), (.iconst 4, 235, 0, 0, 0), (.aload_n 0, 236, 0, 0, 0), (.getfield 118, 237, 11, 2, 87), (.invokevirtual 142, 240, 184, 2, 4619)], 243),
  (243, [true, false, true, false, false, false], [(.aload_n 0, 243, 0, 0, 0), (.aload_n 0, 244, 0, 0, 0), (.getfield 131, 245, 11, 6, 91), (.putfield 9, 248, 11, 3, 88), (.aload_n 0, 251, 0, 0, 0), (.getfield 128, 252, 11, 5, 90), (.ifCond .eq 11, 255, 0, 0, 0), (.aload_n 0, 258, 0, 0, 0), (.getfield 128, 259, 11, 5, 90), (.bipush 10, 262, 0, 0, 0), (.isub, 264, 0, 0, 0), (.ireturn, 265, 0, 0, 0)], 266),
  (266, [true, false, true, false, false, false], [(.aload_n 0, 266, 0, 0, 0), (.aload_n 0, 267, 0, 0, 0), (.getfield 23, 268, 11, 11, 96), (.iload_n 2, 271, 0, 0, 0), (.invokevirtual 207, 272, 196, 2, 4747), (.iload_n 2, 275, 0, 0, 0), (.ireturn, 276, 0, 0, 0)], 277)]
def z_md_195 : z_Md := (false, [], (fun t => z_B_195.lookup t), 6)
set_option maxRecDepth 100000 in
theorem z_gm_195 {mt : Nat → z_Md} (h : mt 195 = z_md_195) : z_gm z_mi mt 195 := z_okB_ok (o := 14) (vp := 0) (md := (false, [], 6)) (bl := z_B_195) h (fun z => absurd rfl z) (by decide +kernel)
/-- LacedHolesModel.takesWay([II)V -/
def z_B_196 : z_Bk := [(0, [true, true, true, false], [(.iconst 0, 0, 0, 0, 0), (.istore_n 3, 1, 0, 0, 0)], 2),
  (2, [true, true, true, true], [(.iload_n 3, 2, 0, 0, 0), (.iload_n 2, 3, 0, 0, 0), (.if_icmp .ge 18, 4, 0, 0, 0), (.aload_n 0, 7, 0, 0, 0), (.getfield 26, 8, 11, 12, 97), (.iload_n 3, 11, 0, 0, 0), (.aload_n 1, 12, 0, 0, 0), (.iload_n 3, 13, 0, 0, 0), (.iaload, 14, 0, 0, 0), (.iastore, 15, 0, 0, 0), (.iinc 3 1, 16, 0, 0, 0), (.goto (-17), 19, 0, 0, 0)], 22),
  (22, [true, false, true, false], [(.aload_n 0, 22, 0, 0, 0), (.iload_n 2, 23, 0, 0, 0), (.putfield 189, 24, 11, 13, 98), (.return_, 27, 0, 0, 0)], 28)]
def z_md_196 : z_Md := (false, [], (fun t => z_B_196.lookup t), 4)
set_option maxRecDepth 100000 in
theorem z_gm_196 {mt : Nat → z_Md} (h : mt 196 = z_md_196) : z_gm z_mi mt 196 := z_okB_ok (o := 14) (vp := 0) (md := (false, [], 4)) (bl := z_B_196) h (fun z => absurd rfl z) (by decide +kernel)
/-- LacedHolesModel.fault()I -/
def z_B_197 : z_Bk := [(0, [true], [(.aload_n 0, 0, 0, 0, 0), (.iconst 0, 1, 0, 0, 0), (.putfield 112, 2, 11, 0, 85), (.aload_n 0, 5, 0, 0, 0), (.getfield 9, 6, 11, 3, 88), (.ireturn, 9, 0, 0, 0)], 10)]
def z_md_197 : z_Md := (false, [], (fun t => z_B_197.lookup t), 1)
set_option maxRecDepth 100000 in
theorem z_gm_197 {mt : Nat → z_Md} (h : mt 197 = z_md_197) : z_gm z_mi mt 197 := z_okB_ok (o := 14) (vp := 0) (md := (false, [], 1)) (bl := z_B_197) h (fun z => absurd rfl z) (by decide +kernel)
/-- LacedHolesModel.told(I)I -/
def z_B_198 : z_Bk := [(0, [true, true], [(.aload_n 0, 0, 0, 0, 0), (.iconst 0, 1, 0, 0, 0), (.putfield 112, 2, 11, 0, 85), (.aload_n 0, 5, 0, 0, 0), (.iload_n 1, 6, 0, 0, 0), (.iconst 0, 7, 0, 0, 0), (.bipush 7, 8, 0, 0, 0), (.invokestatic 150, 10, 180, 3, 279), (.ifCond .ne 7, 13, 0, 0, 0), (.iconst 1, 16, 0, 0, 0), (.goto 4, 17, 0, 0, 0)], 20),
  (20, [true, true], [(.iconst 0, 20, 0, 0, 0)], 21),
  (21, [true, true], [(.iconst 1, 21, 0, 0, 0), (.invokevirtual 172, 22, 179, 2, 4491), (.ifCond .eq 5, 25, 0, 0, 0), (.iconst 0, 28, 0, 0, 0), (.ireturn, 29, 0, 0, 0)], 30),
  (30, [true, true], [(.iload_n 1, 30, 0, 0, 0), (.bipush 7, 31, 0, 0, 0), (.if_icmp .ge 12, 33, 0, 0, 0), (.aload_n 0, 36, 0, 0, 0), (.getfield 20, 37, 11, 10, 95), (.iload_n 1, 40, 0, 0, 0), (.iaload, 41, 0, 0, 0), (.goto 7, 42, 0, 0, 0)], 45),
  (45, [true, false], [(.aload_n 0, 45, 0, 0, 0), (.getfield 189, 46, 11, 13, 98)], 49),
  (49, [false, false], [(.ireturn, 49, 0, 0, 0)], 50)]
def z_md_198 : z_Md := (false, [], (fun t => z_B_198.lookup t), 2)
set_option maxRecDepth 100000 in
theorem z_gm_198 {mt : Nat → z_Md} (h : mt 198 = z_md_198) : z_gm z_mi mt 198 := z_okB_ok (o := 14) (vp := 0) (md := (false, [], 2)) (bl := z_B_198) h (fun z => absurd rfl z) (by decide +kernel)
/-- LacedHolesModel.holes()I -/
def z_B_199 : z_Bk := [(0, [true], [(.aload_n 0, 0, 0, 0, 0), (.getfield 20, 1, 11, 10, 95), (.iconst 0, 4, 0, 0, 0), (.iaload, 5, 0, 0, 0), (.aload_n 0, 6, 0, 0, 0), (.getfield 20, 7, 11, 10, 95), (.iconst 1, 10, 0, 0, 0), (.iaload, 11, 0, 0, 0), (.iadd, 12, 0, 0, 0), (.ireturn, 13, 0, 0, 0)], 14)]
def z_md_199 : z_Md := (false, [], (fun t => z_B_199.lookup t), 1)
set_option maxRecDepth 100000 in
theorem z_gm_199 {mt : Nat → z_Md} (h : mt 199 = z_md_199) : z_gm z_mi mt 199 := z_okB_ok (o := 14) (vp := 0) (md := (false, [], 1)) (bl := z_B_199) h (fun z => absurd rfl z) (by decide +kernel)
/-- LacedHolesModel.sound()I -/
def z_B_200 : z_Bk := [(0, [true], [(.iconst 1, 0, 0, 0, 0), (.aload_n 0, 1, 0, 0, 0), (.invokevirtual 204, 2, 199, 0, 4699), (.ishl, 5, 0, 0, 0), (.iconst 1, 6, 0, 0, 0), (.isub, 7, 0, 0, 0), (.aload_n 0, 8, 0, 0, 0), (.getfield 20, 9, 11, 10, 95), (.bipush 6, 12, 0, 0, 0), (.iaload, 14, 0, 0, 0), (.iconst (-1), 15, 0, 0, 0), (.ixor, 16, 0, 0, 0), (.iand, 17, 0, 0, 0), (.ireturn, 18, 0, 0, 0)], 19)]
def z_md_200 : z_Md := (false, [], (fun t => z_B_200.lookup t), 1)
set_option maxRecDepth 100000 in
theorem z_gm_200 {mt : Nat → z_Md} (h : mt 200 = z_md_200) : z_gm z_mi mt 200 := z_okB_ok (o := 14) (vp := 0) (md := (false, [], 1)) (bl := z_B_200) h (fun z => absurd rfl z) (by decide +kernel)
/-- LacedHolesModel.ones(I)I -/
def z_B_201 : z_Bk := [(0, [true, false, false], [(.iconst 0, 0, 0, 0, 0), (.istore_n 1, 1, 0, 0, 0), (.iconst 0, 2, 0, 0, 0), (.istore_n 2, 3, 0, 0, 0)], 4),
  (4, [true, true, true], [(.iload_n 2, 4, 0, 0, 0), (.bipush 12, 5, 0, 0, 0), (.if_icmp .ge 17, 7, 0, 0, 0), (.iload_n 1, 10, 0, 0, 0), (.iload_n 0, 11, 0, 0, 0), (.iload_n 2, 12, 0, 0, 0), (.ishr, 13, 0, 0, 0), (.iconst 1, 14, 0, 0, 0), (.iand, 15, 0, 0, 0), (.iadd, 16, 0, 0, 0), (.istore_n 1, 17, 0, 0, 0), (.iinc 2 1, 18, 0, 0, 0), (.goto (-17), 21, 0, 0, 0)], 24),
  (24, [false, true, false], [(.iload_n 1, 24, 0, 0, 0), (.ireturn, 25, 0, 0, 0)], 26)]
def z_md_201 : z_Md := (false, [], (fun t => z_B_201.lookup t), 3)
set_option maxRecDepth 100000 in
theorem z_gm_201 {mt : Nat → z_Md} (h : mt 201 = z_md_201) : z_gm z_mi mt 201 := z_okB_ok (o := 14) (vp := 0) (md := (false, [], 3)) (bl := z_B_201) h (fun z => absurd rfl z) (by decide +kernel)
/-- LacedHolesModel.laysRoot(I)V -/
def z_B_202 : z_Bk := [(0, [true, true, false, false, false, false], [(.aload_n 0, 0, 0, 0, 0), (.getfield 20, 1, 11, 10, 95), (.iconst 2, 4, 0, 0, 0), (.iaload, 5, 0, 0, 0), (.aload_n 0, 6, 0, 0, 0), (.getfield 20, 7, 11, 10, 95), (.iconst 2, 10, 0, 0, 0), (.iaload, 11, 0, 0, 0), (.imul, 12, 0, 0, 0), (.iload_n 1, 13, 0, 0, 0), (.iload_n 1, 14, 0, 0, 0), (.imul, 15, 0, 0, 0), (.aload_n 0, 16, 0, 0, 0), (.getfield 20, 17, 11, 10, 95), (.iconst 3, 20, 0, 0, 0), (.iaload, 21, 0, 0, 0), (.imul, 22, 0, 0, 0), (.aload_n 0, 23, 0, 0, 0), (.getfield 20, 24, 11, 10, 95), (.iconst 3, 27, 0, 0, 0), (.iaload, 28, 0, 0, 0), (.imul, 29, 0, 0, 0), (.iadd, 30, 0, 0, 0), (.istore_n 2, 31, 0, 0, 0), (.aload_n 0, 32, 0, 0, 0), (.getfield 47, 33, 11, 23, 108), (.iload_n 1, 36, 0, 0, 0), (.iload_n 2, 37, 0, 0, 0), (.iastore, 38, 0, 0, 0), (.aload_n 0, 39, 0, 0, 0), (.getfield 50, 40, 11, 24, 109), (.iload_n 1, 43, 0, 0, 0), (.iconst 1, 44, 0, 0, 0), (.iastore, 45, 0, 0, 0), (.aload_n 0, 46, 0, 0, 0), (.getfield 53, 47, 11, 25, 110), (.iload_n 1, 50, 0, 0, 0), (.iload_n 2, 51, 0, 0, 0), (.iastore, 52, 0, 0, 0), (.iconst 2, 53, 0, 0, 0), (.istore_n 3, 54, 0, 0, 0)], 55),
  (55, [true, true, true, true, false, false], [(.iload_n 3, 55, 0, 0, 0), (.iload_n 3, 56, 0, 0, 0), (.imul, 57, 0, 0, 0), (.aload_n 0, 58, 0, 0, 0), (.getfield 53, 59, 11, 25, 110), (.iload_n 1, 62, 0, 0, 0), (.iaload, 63, 0, 0, 0), (.if_icmp .gt 47, 64, 0, 0, 0)], 67),
  (67, [true, true, true, true, false, false], [(.aload_n 0, 67, 0, 0, 0), (.getfield 53, 68, 11, 25, 110), (.iload_n 1, 71, 0, 0, 0), (.iaload, 72, 0, 0, 0), (.iload_n 3, 73, 0, 0, 0), (.iload_n 3, 74, 0, 0, 0), (.imul, 75, 0, 0, 0), (.irem, 76, 0, 0, 0), (.ifCond .ne 28, 77, 0, 0, 0), (.aload_n 0, 80, 0, 0, 0), (.getfield 53, 81, 11, 25, 110), (.iload_n 1, 84, 0, 0, 0), (.dup2, 85, 0, 0, 0), (.iaload, 86, 0, 0, 0), (.iload_n 3, 87, 0, 0, 0), (.iload_n 3, 88, 0, 0, 0), (.imul, 89, 0, 0, 0), (.idiv, 90, 0, 0, 0), (.iastore, 91, 0, 0, 0), (.aload_n 0, 92, 0, 0, 0), (.getfield 50, 93, 11, 24, 109), (.iload_n 1, 96, 0, 0, 0), (.dup2, 97, 0, 0, 0), (.iaload, 98, 0, 0, 0), (.iload_n 3, 99, 0, 0, 0), (.imul, 100, 0, 0, 0), (.iastore, 101, 0, 0, 0), (.goto (-35), 102, 0, 0, 0)], 105),
  (105, [true, true, true, true, false, false], [(.iinc 3 1, 105, 0, 0, 0), (.goto (-53), 108, 0, 0, 0)], 111),
  (111, [true, true, true, false, false, false], [(.iconst 0, 111, 0, 0, 0), (.istore_n 3, 112, 0, 0, 0)], 113),
  (113, [true, true, true, true, false, false], [(.iload_n 3, 113, 0, 0, 0), (.iconst 1, 114, 0, 0, 0), (.iadd, 115, 0, 0, 0), (.iload_n 3, 116, 0, 0, 0), (.iconst 1, 117, 0, 0, 0), (.iadd, 118, 0, 0, 0), (.imul, 119, 0, 0, 0), (.iload_n 2, 120, 0, 0, 0), (.if_icmp .gt 9, 121, 0, 0, 0), (.iinc 3 1, 124, 0, 0, 0), (.goto (-14), 127, 0, 0, 0)], 130),
  (130, [true, true, true, true, false, false], [(.aload_n 0, 130, 0, 0, 0), (.getfield 56, 131, 11, 26, 111), (.iload_n 1, 134, 0, 0, 0), (.aaload, 135, 0, 0, 0), (.astore 4, 136, 0, 0, 0), (.iconst 0, 138, 0, 0, 0), (.istore 5, 139, 0, 0, 0)], 141),
  (141, [true, true, true, true, true, true], [(.iload 5, 141, 0, 0, 0), (.sipush 228, 143, 0, 0, 0), (.if_icmp .ge 15, 146, 0, 0, 0), (.aload 4, 149, 0, 0, 0), (.iload 5, 151, 0, 0, 0), (.iconst 0, 153, 0, 0, 0), (.iastore, 154, 0, 0, 0), (.iinc 5 1, 155, 0, 0, 0), (.goto (-17), 158, 0, 0, 0)], 161),
  (161, [true, true, true, true, true, false], [(.aload 4, 161, 0, 0, 0), (.iconst 5, 163, 0, 0, 0), (.iload_n 3, 164, 0, 0, 0), (.bipush 100, 165, 0, 0, 0), (.idiv, 167, 0, 0, 0), (.iastore, 168, 0, 0, 0), (.aload 4, 169, 0, 0, 0), (.bipush 6, 171, 0, 0, 0), (.iload_n 3, 173, 0, 0, 0), (.bipush 10, 174, 0, 0, 0), (.idiv, 176, 0, 0, 0), (.bipush 10, 177, 0, 0, 0), (.irem, 179, 0, 0, 0), (.iastore, 180, 0, 0, 0), (.aload 4, 181, 0, 0, 0), (.bipush 7, 183, 0, 0, 0), (.iload_n 3, 185, 0, 0, 0), (.bipush 10, 186, 0, 0, 0), (.irem, 188, 0, 0, 0), (.iastore, 189, 0, 0, 0), (.aload_n 0, 190, 0, 0, 0), (.iload_n 2, 191, 0, 0, 0), (.iload_n 3, 192, 0, 0, 0), (.iload_n 3, 193, 0, 0, 0), (.imul, 194, 0, 0, 0), (.isub, 195, 0, 0, 0), (.iload_n 3, 196, 0, 0, 0), (.aload 4, 197, 0, 0, 0), (.invokevirtual 211, 199, 203, 3, 4331), (.aload_n 0, 202, 0, 0, 0), (.getfield 40, 203, 11, 21, 106), (.iload_n 1, 206, 0, 0, 0), (.lconst 0, 207, 0, 0, 0), (.lastore, 208, 0, 0, 0), (.iconst 0, 209, 0, 0, 0), (.istore 5, 210, 0, 0, 0)], 212),
  (212, [true, true, true, false, true, true], [(.iload 5, 212, 0, 0, 0), (.bipush 20, 214, 0, 0, 0), (.if_icmp .ge 32, 216, 0, 0, 0), (.aload_n 0, 219, 0, 0, 0), (.getfield 40, 220, 11, 21, 106), (.iload_n 1, 223, 0, 0, 0), (.ldc2_w 215, 224, 0, 11, 10), (.aload_n 0, 227, 0, 0, 0), (.getfield 40, 228, 11, 21, 106), (.iload_n 1, 231, 0, 0, 0), (.laload, 232, 0, 0, 0), (.lmul, 233, 0, 0, 0), (.aload 4, 234, 0, 0, 0), (.iload 5, 236, 0, 0, 0), (.iaload, 238, 0, 0, 0), (.i2l, 239, 0, 0, 0), (.ladd, 240, 0, 0, 0), (.lastore, 241, 0, 0, 0), (.iinc 5 1, 242, 0, 0, 0), (.goto (-33), 245, 0, 0, 0)], 248),
  (248, [true, true, true, false, true, false], [(.aload 4, 248, 0, 0, 0), (.aload_n 0, 250, 0, 0, 0), (.getfield 20, 251, 11, 10, 95), (.iconst 2, 254, 0, 0, 0), (.iaload, 255, 0, 0, 0), (.iload_n 2, 256, 0, 0, 0), (.aload_n 0, 257, 0, 0, 0), (.getfield 59, 258, 11, 27, 112), (.iload_n 1, 261, 0, 0, 0), (.aaload, 262, 0, 0, 0), (.invokestatic 217, 263, 208, 4, 275), (.aload_n 0, 266, 0, 0, 0), (.getfield 44, 267, 11, 22, 107), (.iload_n 1, 270, 0, 0, 0), (.lconst 0, 271, 0, 0, 0), (.lastore, 272, 0, 0, 0), (.iconst 0, 273, 0, 0, 0), (.istore 5, 274, 0, 0, 0)], 276),
  (276, [true, true, false, false, false, true], [(.iload 5, 276, 0, 0, 0), (.bipush 20, 278, 0, 0, 0), (.if_icmp .ge 36, 280, 0, 0, 0), (.aload_n 0, 283, 0, 0, 0), (.getfield 44, 284, 11, 22, 107), (.iload_n 1, 287, 0, 0, 0), (.ldc2_w 215, 288, 0, 11, 10), (.aload_n 0, 291, 0, 0, 0), (.getfield 44, 292, 11, 22, 107), (.iload_n 1, 295, 0, 0, 0), (.laload, 296, 0, 0, 0), (.lmul, 297, 0, 0, 0), (.aload_n 0, 298, 0, 0, 0), (.getfield 59, 299, 11, 27, 112), (.iload_n 1, 302, 0, 0, 0), (.aaload, 303, 0, 0, 0), (.iload 5, 304, 0, 0, 0), (.iaload, 306, 0, 0, 0), (.i2l, 307, 0, 0, 0), (.ladd, 308, 0, 0, 0), (.lastore, 309, 0, 0, 0), (.iinc 5 1, 310, 0, 0, 0), (.goto (-37), 313, 0, 0, 0)], 316),
  (316, [false, false, false, false, false, false], [(.return_, 316, 0, 0, 0)], 317)]
def z_md_202 : z_Md := (false, [], (fun t => z_B_202.lookup t), 6)
set_option maxRecDepth 100000 in
theorem z_gm_202 {mt : Nat → z_Md} (h : mt 202 = z_md_202) : z_gm z_mi mt 202 := z_okB_ok (o := 14) (vp := 0) (md := (false, [], 6)) (bl := z_B_202) h (fun z => absurd rfl z) (by decide +kernel)
/-- LacedHolesModel.moreDigits(II[I)V -/
def z_B_203 : z_Bk := [(0, [true, true, true, true, false, false, false, false, false, false], [(.aload_n 0, 0, 0, 0, 0), (.getfield 62, 1, 11, 28, 113), (.arraylength, 4, 0, 0, 0), (.istore 4, 5, 0, 0, 0), (.iconst 0, 7, 0, 0, 0), (.istore 5, 8, 0, 0, 0)], 10),
  (10, [true, true, true, true, true, true, false, false, false, false], [(.iload 5, 10, 0, 0, 0), (.iload 4, 12, 0, 0, 0), (.if_icmp .ge 25, 14, 0, 0, 0), (.aload_n 0, 17, 0, 0, 0), (.getfield 62, 18, 11, 28, 113), (.iload 5, 21, 0, 0, 0), (.iconst 0, 23, 0, 0, 0), (.iastore, 24, 0, 0, 0), (.aload_n 0, 25, 0, 0, 0), (.getfield 65, 26, 11, 29, 114), (.iload 5, 29, 0, 0, 0), (.iconst 0, 31, 0, 0, 0), (.iastore, 32, 0, 0, 0), (.iinc 5 1, 33, 0, 0, 0), (.goto (-26), 36, 0, 0, 0)], 39),
  (39, [true, true, true, true, false, false, false, false, false, false], [(.iload_n 1, 39, 0, 0, 0), (.istore 5, 40, 0, 0, 0), (.iconst 2, 42, 0, 0, 0), (.iload_n 2, 43, 0, 0, 0), (.imul, 44, 0, 0, 0), (.istore 6, 45, 0, 0, 0), (.bipush 8, 47, 0, 0, 0), (.istore 7, 49, 0, 0, 0), (.iconst 0, 51, 0, 0, 0), (.istore 8, 52, 0, 0, 0)], 54),
  (54, [true, false, false, true, false, true, true, true, true, false], [(.iload 8, 54, 0, 0, 0), (.bipush 8, 56, 0, 0, 0), (.if_icmp .ge 47, 58, 0, 0, 0), (.aload_n 0, 61, 0, 0, 0), (.getfield 62, 62, 11, 28, 113), (.iload 8, 65, 0, 0, 0), (.iload 5, 67, 0, 0, 0), (.bipush 10, 69, 0, 0, 0), (.irem, 71, 0, 0, 0), (.iastore, 72, 0, 0, 0), (.aload_n 0, 73, 0, 0, 0), (.getfield 65, 74, 11, 29, 114), (.iload 8, 77, 0, 0, 0), (.iload 6, 79, 0, 0, 0), (.bipush 10, 81, 0, 0, 0), (.irem, 83, 0, 0, 0), (.iastore, 84, 0, 0, 0), (.iload 5, 85, 0, 0, 0), (.bipush 10, 87, 0, 0, 0), (.idiv, 89, 0, 0, 0), (.istore 5, 90, 0, 0, 0), (.iload 6, 92, 0, 0, 0), (.bipush 10, 94, 0, 0, 0), (.idiv, 96, 0, 0, 0), (.istore 6, 97, 0, 0, 0), (.iinc 8 1, 99, 0, 0, 0), (.goto (-48), 102, 0, 0, 0)], 105),
  (105, [true, false, false, true, false, false, false, true, false, false], [(.bipush 8, 105, 0, 0, 0), (.istore 8, 107, 0, 0, 0)], 109),
  (109, [true, false, false, true, false, false, false, true, true, false], [(.iload 8, 109, 0, 0, 0), (.sipush 228, 111, 0, 0, 0), (.if_icmp .ge 115, 114, 0, 0, 0), (.aload_n 0, 117, 0, 0, 0), (.getfield 62, 118, 11, 28, 113), (.iconst 2, 121, 0, 0, 0), (.iload 7, 122, 0, 0, 0), (.iconst 2, 124, 0, 0, 0), (.iadd, 125, 0, 0, 0), (.invokestatic 221, 126, 204, 3, 271), (.aload_n 0, 129, 0, 0, 0), (.getfield 65, 130, 11, 29, 114), (.iconst 1, 133, 0, 0, 0), (.iload 7, 134, 0, 0, 0), (.iconst 2, 136, 0, 0, 0), (.iadd, 137, 0, 0, 0), (.invokestatic 221, 138, 204, 3, 271), (.iinc 7 1, 141, 0, 0, 0), (.aload_n 0, 144, 0, 0, 0), (.getfield 65, 145, 11, 29, 114), (.iconst 0, 148, 0, 0, 0), (.iconst 1, 149, 0, 0, 0), (.iastore, 150, 0, 0, 0), (.iconst 0, 151, 0, 0, 0), (.istore 9, 152, 0, 0, 0)], 154),
  (154, [true, false, false, true, false, false, false, true, true, true], [(.aload_n 0, 154, 0, 0, 0), (.getfield 62, 155, 11, 28, 113), (.aload_n 0, 158, 0, 0, 0), (.getfield 65, 159, 11, 29, 114), (.iload 7, 162, 0, 0, 0), (.iconst 2, 164, 0, 0, 0), (.iadd, 165, 0, 0, 0), (.invokestatic 225, 166, 205, 3, 272), (.ifCond .ne 36, 169, 0, 0, 0), (.aload_n 0, 172, 0, 0, 0), (.getfield 62, 173, 11, 28, 113), (.aload_n 0, 176, 0, 0, 0), (.getfield 65, 177, 11, 29, 114), (.iload 7, 180, 0, 0, 0), (.iconst 2, 182, 0, 0, 0), (.iadd, 183, 0, 0, 0), (.invokestatic 229, 184, 206, 3, 273), (.aload_n 0, 187, 0, 0, 0), (.getfield 65, 188, 11, 29, 114), (.iconst 2, 191, 0, 0, 0), (.iload 7, 192, 0, 0, 0), (.iconst 2, 194, 0, 0, 0), (.iadd, 195, 0, 0, 0), (.invokestatic 233, 196, 207, 3, 274), (.iinc 9 1, 199, 0, 0, 0), (.goto (-48), 202, 0, 0, 0)], 205),
  (205, [true, false, false, true, false, false, false, true, true, true], [(.aload_n 0, 205, 0, 0, 0), (.getfield 65, 206, 11, 29, 114), (.iconst (-1), 209, 0, 0, 0), (.iload 7, 210, 0, 0, 0), (.iconst 2, 212, 0, 0, 0), (.iadd, 213, 0, 0, 0), (.invokestatic 233, 214, 207, 3, 274), (.aload_n 3, 217, 0, 0, 0), (.iload 8, 218, 0, 0, 0), (.iload 9, 220, 0, 0, 0), (.iastore, 222, 0, 0, 0), (.iinc 8 1, 223, 0, 0, 0), (.goto (-117), 226, 0, 0, 0)], 229),
  (229, [false, false, false, false, false, false, false, false, false, false], [(.return_, 229, 0, 0, 0)], 230)]
def z_md_203 : z_Md := (false, [], (fun t => z_B_203.lookup t), 10)
set_option maxRecDepth 100000 in
theorem z_gm_203 {mt : Nat → z_Md} (h : mt 203 = z_md_203) : z_gm z_mi mt 203 := z_okB_ok (o := 14) (vp := 0) (md := (false, [], 10)) (bl := z_B_203) h (fun z => absurd rfl z) (by decide +kernel)
/-- LacedHolesModel.shifts([III)V -/
def z_B_204 : z_Bk := [(0, [true, true, true, false], [(.iload_n 2, 0, 0, 0, 0), (.istore_n 3, 1, 0, 0, 0)], 2),
  (2, [true, true, false, true], [(.iload_n 3, 2, 0, 0, 0), (.iload_n 1, 3, 0, 0, 0), (.if_icmp .lt 17, 4, 0, 0, 0), (.aload_n 0, 7, 0, 0, 0), (.iload_n 3, 8, 0, 0, 0), (.aload_n 0, 9, 0, 0, 0), (.iload_n 3, 10, 0, 0, 0), (.iload_n 1, 11, 0, 0, 0), (.isub, 12, 0, 0, 0), (.iaload, 13, 0, 0, 0), (.iastore, 14, 0, 0, 0), (.iinc 3 (-1), 15, 0, 0, 0), (.goto (-16), 18, 0, 0, 0)], 21),
  (21, [true, true, false, false], [(.iconst 0, 21, 0, 0, 0), (.istore_n 3, 22, 0, 0, 0)], 23),
  (23, [true, true, false, true], [(.iload_n 3, 23, 0, 0, 0), (.iload_n 1, 24, 0, 0, 0), (.if_icmp .ge 13, 25, 0, 0, 0), (.aload_n 0, 28, 0, 0, 0), (.iload_n 3, 29, 0, 0, 0), (.iconst 0, 30, 0, 0, 0), (.iastore, 31, 0, 0, 0), (.iinc 3 1, 32, 0, 0, 0), (.goto (-12), 35, 0, 0, 0)], 38),
  (38, [false, false, false, false], [(.return_, 38, 0, 0, 0)], 39)]
def z_md_204 : z_Md := (false, [], (fun t => z_B_204.lookup t), 4)
set_option maxRecDepth 100000 in
theorem z_gm_204 {mt : Nat → z_Md} (h : mt 204 = z_md_204) : z_gm z_mi mt 204 := z_okB_ok (o := 14) (vp := 0) (md := (false, [], 4)) (bl := z_B_204) h (fun z => absurd rfl z) (by decide +kernel)
/-- LacedHolesModel.isLess([I[II)Z -/
def z_B_205 : z_Bk := [(0, [true, true, true, false], [(.iload_n 2, 0, 0, 0, 0), (.istore_n 3, 1, 0, 0, 0)], 2),
  (2, [true, true, false, true], [(.iload_n 3, 2, 0, 0, 0), (.ifCond .lt 33, 3, 0, 0, 0), (.aload_n 0, 6, 0, 0, 0), (.iload_n 3, 7, 0, 0, 0), (.iaload, 8, 0, 0, 0), (.aload_n 1, 9, 0, 0, 0), (.iload_n 3, 10, 0, 0, 0), (.iaload, 11, 0, 0, 0), (.if_icmp .eq 18, 12, 0, 0, 0), (.aload_n 0, 15, 0, 0, 0), (.iload_n 3, 16, 0, 0, 0), (.iaload, 17, 0, 0, 0), (.aload_n 1, 18, 0, 0, 0), (.iload_n 3, 19, 0, 0, 0), (.iaload, 20, 0, 0, 0), (.if_icmp .ge 7, 21, 0, 0, 0), (.iconst 1, 24, 0, 0, 0), (.goto 4, 25, 0, 0, 0)], 28),
  (28, [false, false, false, false], [(.iconst 0, 28, 0, 0, 0)], 29),
  (29, [false, false, false, false], [(.ireturn, 29, 0, 0, 0)], 30),
  (30, [true, true, false, true], [(.iinc 3 (-1), 30, 0, 0, 0), (.goto (-31), 33, 0, 0, 0)], 36),
  (36, [false, false, false, false], [(.iconst 0, 36, 0, 0, 0), (.ireturn, 37, 0, 0, 0)], 38)]
def z_md_205 : z_Md := (true, [], (fun t => z_B_205.lookup t), 4)
set_option maxRecDepth 100000 in
theorem z_gm_205 {mt : Nat → z_Md} (h : mt 205 = z_md_205) : z_gm z_mi mt 205 := z_okB_ok (o := 14) (vp := 0) (md := (true, [], 4)) (bl := z_B_205) h (fun z => absurd rfl z) (by decide +kernel)
/-- LacedHolesModel.takesOff([I[II)V -/
def z_B_206 : z_Bk := [(0, [true, true, true, false, false, false], [(.iconst 0, 0, 0, 0, 0), (.istore_n 3, 1, 0, 0, 0), (.iconst 0, 2, 0, 0, 0), (.istore 4, 3, 0, 0, 0)], 5),
  (5, [true, true, true, true, true, false], [(.iload 4, 5, 0, 0, 0), (.iload_n 2, 7, 0, 0, 0), (.if_icmp .gt 52, 8, 0, 0, 0), (.aload_n 0, 11, 0, 0, 0), (.iload 4, 12, 0, 0, 0), (.iaload, 14, 0, 0, 0), (.aload_n 1, 15, 0, 0, 0), (.iload 4, 16, 0, 0, 0), (.iaload, 18, 0, 0, 0), (.isub, 19, 0, 0, 0), (.iload_n 3, 20, 0, 0, 0), (.isub, 21, 0, 0, 0), (.istore 5, 22, 0, 0, 0), (.iload 5, 24, 0, 0, 0), (.ifCond .ge 7, 26, 0, 0, 0), (.iconst 1, 29, 0, 0, 0), (.goto 4, 30, 0, 0, 0)], 33),
  (33, [true, true, true, false, true, true], [(.iconst 0, 33, 0, 0, 0)], 34),
  (34, [true, true, true, false, true, true], [(.istore_n 3, 34, 0, 0, 0), (.aload_n 0, 35, 0, 0, 0), (.iload 4, 36, 0, 0, 0), (.iload 5, 38, 0, 0, 0), (.ifCond .ge 11, 40, 0, 0, 0), (.iload 5, 43, 0, 0, 0), (.bipush 10, 45, 0, 0, 0), (.iadd, 47, 0, 0, 0), (.goto 5, 48, 0, 0, 0)], 51),
  (51, [true, true, true, true, true, true], [(.iload 5, 51, 0, 0, 0)], 53),
  (53, [true, true, true, true, true, false], [(.iastore, 53, 0, 0, 0), (.iinc 4 1, 54, 0, 0, 0), (.goto (-52), 57, 0, 0, 0)], 60),
  (60, [false, false, false, false, false, false], [(.return_, 60, 0, 0, 0)], 61)]
def z_md_206 : z_Md := (false, [], (fun t => z_B_206.lookup t), 6)
set_option maxRecDepth 100000 in
theorem z_gm_206 {mt : Nat → z_Md} (h : mt 206 = z_md_206) : z_gm z_mi mt 206 := z_okB_ok (o := 14) (vp := 0) (md := (false, [], 6)) (bl := z_B_206) h (fun z => absurd rfl z) (by decide +kernel)
/-- LacedHolesModel.adds([III)V -/
def z_B_207 : z_Bk := [(0, [true, true, true, false, false, false], [(.iload_n 1, 0, 0, 0, 0), (.istore_n 3, 1, 0, 0, 0), (.iconst 0, 2, 0, 0, 0), (.istore 4, 3, 0, 0, 0)], 5),
  (5, [true, false, true, true, true, false], [(.iload 4, 5, 0, 0, 0), (.iload_n 2, 7, 0, 0, 0), (.if_icmp .gt 58, 8, 0, 0, 0), (.iload_n 3, 11, 0, 0, 0), (.ifCond .eq 54, 12, 0, 0, 0), (.aload_n 0, 15, 0, 0, 0), (.iload 4, 16, 0, 0, 0), (.iaload, 18, 0, 0, 0), (.iload_n 3, 19, 0, 0, 0), (.iadd, 20, 0, 0, 0), (.istore 5, 21, 0, 0, 0), (.iload 5, 23, 0, 0, 0), (.ifCond .ge 7, 25, 0, 0, 0), (.iconst (-1), 28, 0, 0, 0), (.goto 8, 29, 0, 0, 0)], 32),
  (32, [true, false, true, false, true, true], [(.iload 5, 32, 0, 0, 0), (.bipush 10, 34, 0, 0, 0), (.idiv, 36, 0, 0, 0)], 37),
  (37, [true, false, true, false, true, true], [(.istore_n 3, 37, 0, 0, 0), (.aload_n 0, 38, 0, 0, 0), (.iload 4, 39, 0, 0, 0), (.iload 5, 41, 0, 0, 0), (.ifCond .ge 11, 43, 0, 0, 0), (.iload 5, 46, 0, 0, 0), (.bipush 10, 48, 0, 0, 0), (.iadd, 50, 0, 0, 0), (.goto 8, 51, 0, 0, 0)], 54),
  (54, [true, false, true, true, true, true], [(.iload 5, 54, 0, 0, 0), (.bipush 10, 56, 0, 0, 0), (.irem, 58, 0, 0, 0)], 59),
  (59, [true, false, true, true, true, false], [(.iastore, 59, 0, 0, 0), (.iinc 4 1, 60, 0, 0, 0), (.goto (-58), 63, 0, 0, 0)], 66),
  (66, [false, false, false, false, false, false], [(.return_, 66, 0, 0, 0)], 67)]
def z_md_207 : z_Md := (false, [], (fun t => z_B_207.lookup t), 6)
set_option maxRecDepth 100000 in
theorem z_gm_207 {mt : Nat → z_Md} (h : mt 207 = z_md_207) : z_gm z_mi mt 207 := z_okB_ok (o := 14) (vp := 0) (md := (false, [], 6)) (bl := z_B_207) h (fun z => absurd rfl z) (by decide +kernel)
/-- LacedHolesModel.dividesInto([III[I)V -/
def z_B_208 : z_Bk := [(0, [true, true, true, true, false, false, false, false, false], [(.lconst 0, 0, 0, 0, 0), (.lstore 4, 1, 0, 0, 0), (.iconst 0, 3, 0, 0, 0), (.istore 6, 4, 0, 0, 0), (.aload_n 0, 6, 0, 0, 0), (.arraylength, 7, 0, 0, 0), (.iconst 1, 8, 0, 0, 0), (.isub, 9, 0, 0, 0), (.istore 7, 10, 0, 0, 0)], 12),
  (12, [true, true, true, true, true, false, true, true, false], [(.iload 7, 12, 0, 0, 0), (.ifCond .lt 36, 14, 0, 0, 0), (.aload_n 0, 17, 0, 0, 0), (.iload 7, 18, 0, 0, 0), (.iaload, 20, 0, 0, 0), (.iload_n 1, 21, 0, 0, 0), (.imul, 22, 0, 0, 0), (.iload 6, 23, 0, 0, 0), (.iadd, 25, 0, 0, 0), (.istore 8, 26, 0, 0, 0), (.aload_n 3, 28, 0, 0, 0), (.iload 7, 29, 0, 0, 0), (.iload 8, 31, 0, 0, 0), (.bipush 10, 33, 0, 0, 0), (.irem, 35, 0, 0, 0), (.iastore, 36, 0, 0, 0), (.iload 8, 37, 0, 0, 0), (.bipush 10, 39, 0, 0, 0), (.idiv, 41, 0, 0, 0), (.istore 6, 42, 0, 0, 0), (.iinc 7 (-1), 44, 0, 0, 0), (.goto (-35), 47, 0, 0, 0)], 50),
  (50, [true, false, true, true, true, false, false, false, false], [(.iconst 0, 50, 0, 0, 0), (.istore 7, 51, 0, 0, 0)], 53),
  (53, [true, false, true, true, true, false, false, true, false], [(.iload 7, 53, 0, 0, 0), (.aload_n 0, 55, 0, 0, 0), (.arraylength, 56, 0, 0, 0), (.if_icmp .ge 40, 57, 0, 0, 0), (.ldc2_w 215, 60, 0, 11, 10), (.lload 4, 63, 0, 0, 0), (.lmul, 65, 0, 0, 0), (.aload_n 3, 66, 0, 0, 0), (.iload 7, 67, 0, 0, 0), (.iaload, 69, 0, 0, 0), (.i2l, 70, 0, 0, 0), (.ladd, 71, 0, 0, 0), (.lstore 4, 72, 0, 0, 0), (.aload_n 3, 74, 0, 0, 0), (.iload 7, 75, 0, 0, 0), (.lload 4, 77, 0, 0, 0), (.iload_n 2, 79, 0, 0, 0), (.i2l, 80, 0, 0, 0), (.ldiv, 81, 0, 0, 0), (.l2i, 82, 0, 0, 0), (.iastore, 83, 0, 0, 0), (.lload 4, 84, 0, 0, 0), (.iload_n 2, 86, 0, 0, 0), (.i2l, 87, 0, 0, 0), (.lrem, 88, 0, 0, 0), (.lstore 4, 89, 0, 0, 0), (.iinc 7 1, 91, 0, 0, 0), (.goto (-41), 94, 0, 0, 0)], 97),
  (97, [false, false, false, false, false, false, false, false, false], [(.return_, 97, 0, 0, 0)], 98)]
def z_md_208 : z_Md := (false, [], (fun t => z_B_208.lookup t), 9)
set_option maxRecDepth 100000 in
theorem z_gm_208 {mt : Nat → z_Md} (h : mt 208 = z_md_208) : z_gm z_mi mt 208 := z_okB_ok (o := 14) (vp := 0) (md := (false, [], 9)) (bl := z_B_208) h (fun z => absurd rfl z) (by decide +kernel)
/-- LacedHolesModel.isLeft(I)Z -/
def z_B_209 : z_Bk := [(0, [true, true], [(.iload_n 1, 0, 0, 0, 0), (.aload_n 0, 1, 0, 0, 0), (.getfield 20, 2, 11, 10, 95), (.iconst 0, 5, 0, 0, 0), (.iaload, 6, 0, 0, 0), (.if_icmp .ge 7, 7, 0, 0, 0), (.iconst 1, 10, 0, 0, 0), (.goto 4, 11, 0, 0, 0)], 14),
  (14, [false, false], [(.iconst 0, 14, 0, 0, 0)], 15),
  (15, [false, false], [(.ireturn, 15, 0, 0, 0)], 16)]
def z_md_209 : z_Md := (true, [], (fun t => z_B_209.lookup t), 2)
set_option maxRecDepth 100000 in
theorem z_gm_209 {mt : Nat → z_Md} (h : mt 209 = z_md_209) : z_gm z_mi mt 209 := z_okB_ok (o := 14) (vp := 0) (md := (true, [], 2)) (bl := z_B_209) h (fun z => absurd rfl z) (by decide +kernel)
/-- LacedHolesModel.row(I)I -/
def z_B_210 : z_Bk := [(0, [true, true], [(.aload_n 0, 0, 0, 0, 0), (.iload_n 1, 1, 0, 0, 0), (.invokevirtual 236, 2, 209, 1, 4843), (.ifCond .eq 7, 5, 0, 0, 0), (.iload_n 1, 8, 0, 0, 0), (.goto 11, 9, 0, 0, 0)], 12),
  (12, [true, true], [(.iload_n 1, 12, 0, 0, 0), (.aload_n 0, 13, 0, 0, 0), (.getfield 20, 14, 11, 10, 95), (.iconst 0, 17, 0, 0, 0), (.iaload, 18, 0, 0, 0), (.isub, 19, 0, 0, 0)], 20),
  (20, [false, false], [(.ireturn, 20, 0, 0, 0)], 21)]
def z_md_210 : z_Md := (false, [], (fun t => z_B_210.lookup t), 2)
set_option maxRecDepth 100000 in
theorem z_gm_210 {mt : Nat → z_Md} (h : mt 210 = z_md_210) : z_gm z_mi mt 210 := z_okB_ok (o := 14) (vp := 0) (md := (false, [], 2)) (bl := z_B_210) h (fun z => absurd rfl z) (by decide +kernel)
/-- LacedHolesModel.isAcross(II)Z -/
def z_B_211 : z_Bk := [(0, [true, true, true], [(.aload_n 0, 0, 0, 0, 0), (.iload_n 1, 1, 0, 0, 0), (.invokevirtual 236, 2, 209, 1, 4843), (.aload_n 0, 5, 0, 0, 0), (.iload_n 2, 6, 0, 0, 0), (.invokevirtual 236, 7, 209, 1, 4843), (.if_icmp .eq 7, 10, 0, 0, 0), (.iconst 1, 13, 0, 0, 0), (.goto 4, 14, 0, 0, 0)], 17),
  (17, [false, false, false], [(.iconst 0, 17, 0, 0, 0)], 18),
  (18, [false, false, false], [(.ireturn, 18, 0, 0, 0)], 19)]
def z_md_211 : z_Md := (true, [], (fun t => z_B_211.lookup t), 3)
set_option maxRecDepth 100000 in
theorem z_gm_211 {mt : Nat → z_Md} (h : mt 211 = z_md_211) : z_gm z_mi mt 211 := z_okB_ok (o := 14) (vp := 0) (md := (true, [], 3)) (bl := z_B_211) h (fun z => absurd rfl z) (by decide +kernel)
/-- LacedHolesModel.spanOf(II)J -/
def z_B_212 : z_Bk := [(0, [true, true, true, false], [(.aload_n 0, 0, 0, 0, 0), (.iload_n 1, 1, 0, 0, 0), (.invokevirtual 239, 2, 210, 1, 4827), (.aload_n 0, 5, 0, 0, 0), (.iload_n 2, 6, 0, 0, 0), (.invokevirtual 239, 7, 210, 1, 4827), (.if_icmp .le 17, 10, 0, 0, 0), (.aload_n 0, 13, 0, 0, 0), (.iload_n 1, 14, 0, 0, 0), (.invokevirtual 239, 15, 210, 1, 4827), (.aload_n 0, 18, 0, 0, 0), (.iload_n 2, 19, 0, 0, 0), (.invokevirtual 239, 20, 210, 1, 4827), (.isub, 23, 0, 0, 0), (.goto 14, 24, 0, 0, 0)], 27),
  (27, [true, true, true, false], [(.aload_n 0, 27, 0, 0, 0), (.iload_n 2, 28, 0, 0, 0), (.invokevirtual 239, 29, 210, 1, 4827), (.aload_n 0, 32, 0, 0, 0), (.iload_n 1, 33, 0, 0, 0), (.invokevirtual 239, 34, 210, 1, 4827), (.isub, 37, 0, 0, 0)], 38),
  (38, [true, true, true, false], [(.istore_n 3, 38, 0, 0, 0), (.aload_n 0, 39, 0, 0, 0), (.iload_n 1, 40, 0, 0, 0), (.iload_n 2, 41, 0, 0, 0), (.invokevirtual 242, 42, 211, 2, 4859), (.ifCond .ne 16, 45, 0, 0, 0), (.iload_n 3, 48, 0, 0, 0), (.aload_n 0, 49, 0, 0, 0), (.getfield 20, 50, 11, 10, 95), (.iconst 3, 53, 0, 0, 0), (.iaload, 54, 0, 0, 0), (.imul, 55, 0, 0, 0), (.i2l, 56, 0, 0, 0), (.bipush 24, 57, 0, 0, 0), (.lshl, 59, 0, 0, 0), (.lreturn, 60, 0, 0, 0)], 61),
  (61, [true, false, false, true], [(.iload_n 3, 61, 0, 0, 0), (.ifCond .ne 16, 62, 0, 0, 0), (.aload_n 0, 65, 0, 0, 0), (.getfield 20, 66, 11, 10, 95), (.iconst 2, 69, 0, 0, 0), (.iaload, 70, 0, 0, 0), (.i2l, 71, 0, 0, 0), (.bipush 24, 72, 0, 0, 0), (.lshl, 74, 0, 0, 0), (.goto 4, 75, 0, 0, 0)], 78),
  (78, [false, false, false, true], [(.lconst 0, 78, 0, 0, 0)], 79),
  (79, [false, false, false, true], [(.lconst 1, 79, 0, 0, 0), (.iconst 4, 80, 0, 0, 0), (.iload_n 3, 81, 0, 0, 0), (.imul, 82, 0, 0, 0), (.lshl, 83, 0, 0, 0), (.lor, 84, 0, 0, 0), (.lreturn, 85, 0, 0, 0)], 86)]
def z_md_212 : z_Md := (false, [], (fun t => z_B_212.lookup t), 4)
set_option maxRecDepth 100000 in
theorem z_gm_212 {mt : Nat → z_Md} (h : mt 212 = z_md_212) : z_gm z_mi mt 212 := z_okB_ok (o := 14) (vp := 0) (md := (false, [], 4)) (bl := z_B_212) h (fun z => absurd rfl z) (by decide +kernel)
/-- LacedHolesModel.wholeOf(J)I -/
def z_B_213 : z_Bk := [(0, [true, false], [(.lload_n 0, 0, 0, 0, 0), (.bipush 24, 1, 0, 0, 0), (.lshr, 3, 0, 0, 0), (.l2i, 4, 0, 0, 0), (.ireturn, 5, 0, 0, 0)], 6)]
def z_md_213 : z_Md := (false, [], (fun t => z_B_213.lookup t), 2)
set_option maxRecDepth 100000 in
theorem z_gm_213 {mt : Nat → z_Md} (h : mt 213 = z_md_213) : z_gm z_mi mt 213 := z_okB_ok (o := 14) (vp := 0) (md := (false, [], 2)) (bl := z_B_213) h (fun z => absurd rfl z) (by decide +kernel)
/-- LacedHolesModel.timesOf(JI)I -/
def z_B_214 : z_Bk := [(0, [true, false, true], [(.lload_n 0, 0, 0, 0, 0), (.iconst 4, 1, 0, 0, 0), (.iload_n 2, 2, 0, 0, 0), (.imul, 3, 0, 0, 0), (.lshr, 4, 0, 0, 0), (.ldc2_w 246, 5, 0, 12, 15), (.land, 8, 0, 0, 0), (.l2i, 9, 0, 0, 0), (.ireturn, 10, 0, 0, 0)], 11)]
def z_md_214 : z_Md := (false, [], (fun t => z_B_214.lookup t), 3)
set_option maxRecDepth 100000 in
theorem z_gm_214 {mt : Nat → z_Md} (h : mt 214 = z_md_214) : z_gm z_mi mt 214 := z_okB_ok (o := 14) (vp := 0) (md := (false, [], 3)) (bl := z_B_214) h (fun z => absurd rfl z) (by decide +kernel)
/-- LacedHolesModel.isNothing(Z)Z -/
def z_B_215 : z_Bk := [(0, [true, true, false, false, false, false, false, false, false], [(.iconst 1, 0, 0, 0, 0), (.istore_n 2, 1, 0, 0, 0)], 2),
  (2, [true, true, true, false, false, false, false, false, false], [(.iload_n 2, 2, 0, 0, 0), (.iconst 5, 3, 0, 0, 0), (.if_icmp .gt 195, 4, 0, 0, 0), (.aload_n 0, 7, 0, 0, 0), (.getfield 53, 8, 11, 25, 110), (.iload_n 2, 11, 0, 0, 0), (.iaload, 12, 0, 0, 0), (.iconst 1, 13, 0, 0, 0), (.if_icmp .eq 7, 14, 0, 0, 0), (.iconst 1, 17, 0, 0, 0), (.goto 4, 18, 0, 0, 0)], 21),
  (21, [true, true, true, false, false, false, false, false, false], [(.iconst 0, 21, 0, 0, 0)], 22),
  (22, [true, true, true, false, false, false, false, false, false], [(.istore_n 3, 22, 0, 0, 0), (.iconst 1, 23, 0, 0, 0), (.istore 4, 24, 0, 0, 0)], 26),
  (26, [true, true, true, true, true, false, false, false, false], [(.iload 4, 26, 0, 0, 0), (.iload_n 2, 28, 0, 0, 0), (.if_icmp .ge 35, 29, 0, 0, 0), (.iload_n 3, 32, 0, 0, 0), (.ifCond .eq 23, 33, 0, 0, 0), (.aload_n 0, 36, 0, 0, 0), (.getfield 53, 37, 11, 25, 110), (.iload 4, 40, 0, 0, 0), (.iaload, 42, 0, 0, 0), (.aload_n 0, 43, 0, 0, 0), (.getfield 53, 44, 11, 25, 110), (.iload_n 2, 47, 0, 0, 0), (.iaload, 48, 0, 0, 0), (.if_icmp .eq 7, 49, 0, 0, 0), (.iconst 1, 52, 0, 0, 0), (.goto 4, 53, 0, 0, 0)], 56),
  (56, [true, true, true, false, true, false, false, false, false], [(.iconst 0, 56, 0, 0, 0)], 57),
  (57, [true, true, true, false, true, false, false, false, false], [(.istore_n 3, 57, 0, 0, 0), (.iinc 4 1, 58, 0, 0, 0), (.goto (-35), 61, 0, 0, 0)], 64),
  (64, [true, true, true, true, false, false, false, false, false], [(.iload_n 3, 64, 0, 0, 0), (.ifCond .ne 6, 65, 0, 0, 0), (.goto 125, 68, 0, 0, 0)], 71),
  (71, [true, true, true, false, false, false, false, false, false], [(.lconst 0, 71, 0, 0, 0), (.lstore 4, 72, 0, 0, 0), (.lconst 1, 74, 0, 0, 0), (.lstore 6, 75, 0, 0, 0), (.iload_n 2, 77, 0, 0, 0), (.istore 8, 78, 0, 0, 0)], 80),
  (80, [true, true, true, false, true, false, true, false, true], [(.iload 8, 80, 0, 0, 0), (.iconst 5, 82, 0, 0, 0), (.if_icmp .gt 101, 83, 0, 0, 0), (.aload_n 0, 86, 0, 0, 0), (.getfield 53, 87, 11, 25, 110), (.iload 8, 90, 0, 0, 0), (.iaload, 92, 0, 0, 0), (.aload_n 0, 93, 0, 0, 0), (.getfield 53, 94, 11, 25, 110), (.iload_n 2, 97, 0, 0, 0), (.iaload, 98, 0, 0, 0), (.if_icmp .eq 6, 99, 0, 0, 0), (.goto 76, 102, 0, 0, 0)], 105),
  (105, [true, true, true, false, true, false, true, false, true], [(.iload_n 1, 105, 0, 0, 0), (.ifCond .eq 29, 106, 0, 0, 0), (.lload 4, 109, 0, 0, 0), (.aload_n 0, 111, 0, 0, 0), (.getfield 50, 112, 11, 24, 109), (.iload 8, 115, 0, 0, 0), (.iaload, 117, 0, 0, 0), (.i2l, 118, 0, 0, 0), (.lmul, 119, 0, 0, 0), (.aload_n 0, 120, 0, 0, 0), (.getfield 68, 121, 11, 30, 115), (.iload 8, 124, 0, 0, 0), (.iaload, 126, 0, 0, 0), (.i2l, 127, 0, 0, 0), (.lload 6, 128, 0, 0, 0), (.lmul, 130, 0, 0, 0), (.ladd, 131, 0, 0, 0), (.goto 23, 132, 0, 0, 0)], 135),
  (135, [true, true, true, false, true, false, true, false, true], [(.lload 4, 135, 0, 0, 0), (.aload_n 0, 137, 0, 0, 0), (.getfield 68, 138, 11, 30, 115), (.iload 8, 141, 0, 0, 0), (.iaload, 143, 0, 0, 0), (.i2l, 144, 0, 0, 0), (.aload_n 0, 145, 0, 0, 0), (.getfield 50, 146, 11, 24, 109), (.iload 8, 149, 0, 0, 0), (.iaload, 151, 0, 0, 0), (.i2l, 152, 0, 0, 0), (.lmul, 153, 0, 0, 0), (.ladd, 154, 0, 0, 0)], 155),
  (155, [true, true, true, false, false, false, true, false, true], [(.lstore 4, 155, 0, 0, 0), (.lload 6, 157, 0, 0, 0), (.iload_n 1, 159, 0, 0, 0), (.ifCond .eq 14, 160, 0, 0, 0), (.aload_n 0, 163, 0, 0, 0), (.getfield 50, 164, 11, 24, 109), (.iload 8, 167, 0, 0, 0), (.iaload, 169, 0, 0, 0), (.i2l, 170, 0, 0, 0), (.goto 4, 171, 0, 0, 0)], 174),
  (174, [true, true, true, false, true, false, false, false, true], [(.lconst 1, 174, 0, 0, 0)], 175),
  (175, [true, true, true, false, true, false, false, false, true], [(.lmul, 175, 0, 0, 0), (.lstore 6, 176, 0, 0, 0)], 178),
  (178, [true, true, true, false, true, false, true, false, true], [(.iinc 8 1, 178, 0, 0, 0), (.goto (-101), 181, 0, 0, 0)], 184),
  (184, [true, true, true, false, true, false, false, false, false], [(.lload 4, 184, 0, 0, 0), (.lconst 0, 186, 0, 0, 0), (.lcmp, 187, 0, 0, 0), (.ifCond .eq 5, 188, 0, 0, 0), (.iconst 0, 191, 0, 0, 0), (.ireturn, 192, 0, 0, 0)], 193),
  (193, [true, true, true, false, false, false, false, false, false], [(.iinc 2 1, 193, 0, 0, 0), (.goto (-194), 196, 0, 0, 0)], 199),
  (199, [true, true, false, false, false, false, false, false, false], [(.aload_n 0, 199, 0, 0, 0), (.getfield 68, 200, 11, 30, 115), (.iconst 0, 203, 0, 0, 0), (.iaload, 204, 0, 0, 0), (.i2l, 205, 0, 0, 0), (.lstore_n 2, 206, 0, 0, 0), (.lconst 1, 207, 0, 0, 0), (.lstore 4, 208, 0, 0, 0), (.iconst 1, 210, 0, 0, 0), (.istore 6, 211, 0, 0, 0)], 213),
  (213, [true, true, true, false, true, false, true, false, false], [(.iload 6, 213, 0, 0, 0), (.iconst 5, 215, 0, 0, 0), (.if_icmp .gt 101, 216, 0, 0, 0), (.aload_n 0, 219, 0, 0, 0), (.getfield 53, 220, 11, 25, 110), (.iload 6, 223, 0, 0, 0), (.iaload, 225, 0, 0, 0), (.iconst 1, 226, 0, 0, 0), (.if_icmp .eq 6, 227, 0, 0, 0), (.goto 81, 230, 0, 0, 0)], 233),
  (233, [true, true, true, false, true, false, true, false, false], [(.iload_n 1, 233, 0, 0, 0), (.ifCond .eq 36, 234, 0, 0, 0), (.lload_n 2, 237, 0, 0, 0), (.aload_n 0, 238, 0, 0, 0), (.getfield 50, 239, 11, 24, 109), (.iload 6, 242, 0, 0, 0), (.iaload, 244, 0, 0, 0), (.i2l, 245, 0, 0, 0), (.lmul, 246, 0, 0, 0), (.aload_n 0, 247, 0, 0, 0), (.getfield 68, 248, 11, 30, 115), (.iload 6, 251, 0, 0, 0), (.iaload, 253, 0, 0, 0), (.i2l, 254, 0, 0, 0), (.aload_n 0, 255, 0, 0, 0), (.getfield 20, 256, 11, 10, 95), (.iconst 2, 259, 0, 0, 0), (.iaload, 260, 0, 0, 0), (.i2l, 261, 0, 0, 0), (.lmul, 262, 0, 0, 0), (.lload 4, 263, 0, 0, 0), (.lmul, 265, 0, 0, 0), (.ladd, 266, 0, 0, 0), (.goto 22, 267, 0, 0, 0)], 270),
  (270, [true, true, true, false, true, false, true, false, false], [(.lload_n 2, 270, 0, 0, 0), (.aload_n 0, 271, 0, 0, 0), (.getfield 68, 272, 11, 30, 115), (.iload 6, 275, 0, 0, 0), (.iaload, 277, 0, 0, 0), (.i2l, 278, 0, 0, 0), (.aload_n 0, 279, 0, 0, 0), (.getfield 50, 280, 11, 24, 109), (.iload 6, 283, 0, 0, 0), (.iaload, 285, 0, 0, 0), (.i2l, 286, 0, 0, 0), (.lmul, 287, 0, 0, 0), (.ladd, 288, 0, 0, 0)], 289),
  (289, [true, true, false, false, true, false, true, false, false], [(.lstore_n 2, 289, 0, 0, 0), (.lload 4, 290, 0, 0, 0), (.iload_n 1, 292, 0, 0, 0), (.ifCond .eq 14, 293, 0, 0, 0), (.aload_n 0, 296, 0, 0, 0), (.getfield 50, 297, 11, 24, 109), (.iload 6, 300, 0, 0, 0), (.iaload, 302, 0, 0, 0), (.i2l, 303, 0, 0, 0), (.goto 4, 304, 0, 0, 0)], 307),
  (307, [true, true, true, false, false, false, true, false, false], [(.lconst 1, 307, 0, 0, 0)], 308),
  (308, [true, true, true, false, false, false, true, false, false], [(.lmul, 308, 0, 0, 0), (.lstore 4, 309, 0, 0, 0)], 311),
  (311, [true, true, true, false, true, false, true, false, false], [(.iinc 6 1, 311, 0, 0, 0), (.goto (-101), 314, 0, 0, 0)], 317),
  (317, [false, false, true, false, false, false, false, false, false], [(.lload_n 2, 317, 0, 0, 0), (.lconst 0, 318, 0, 0, 0), (.lcmp, 319, 0, 0, 0), (.ifCond .ne 7, 320, 0, 0, 0), (.iconst 1, 323, 0, 0, 0), (.goto 4, 324, 0, 0, 0)], 327),
  (327, [false, false, false, false, false, false, false, false, false], [(.iconst 0, 327, 0, 0, 0)], 328),
  (328, [false, false, false, false, false, false, false, false, false], [(.ireturn, 328, 0, 0, 0)], 329)]
def z_md_215 : z_Md := (true, [], (fun t => z_B_215.lookup t), 9)
set_option maxRecDepth 100000 in
theorem z_gm_215 {mt : Nat → z_Md} (h : mt 215 = z_md_215) : z_gm z_mi mt 215 := z_okB_ok (o := 14) (vp := 0) (md := (true, [], 9)) (bl := z_B_215) h (fun z => absurd rfl z) (by decide +kernel)
/-- LacedHolesModel.laysPlaces(Z)V -/
def z_B_216 : z_Bk := [(0, [true, true, false, false, false], [(.iconst 0, 0, 0, 0, 0), (.istore_n 2, 1, 0, 0, 0)], 2),
  (2, [true, true, true, false, false], [(.iload_n 2, 2, 0, 0, 0), (.sipush 228, 3, 0, 0, 0), (.if_icmp .ge 86, 6, 0, 0, 0), (.aload_n 0, 9, 0, 0, 0), (.getfield 71, 10, 11, 31, 116), (.iload_n 2, 13, 0, 0, 0), (.iload_n 2, 14, 0, 0, 0), (.bipush 7, 15, 0, 0, 0), (.if_icmp .ne 13, 17, 0, 0, 0), (.aload_n 0, 20, 0, 0, 0), (.getfield 68, 21, 11, 30, 115), (.iconst 0, 24, 0, 0, 0), (.iaload, 25, 0, 0, 0), (.i2l, 26, 0, 0, 0), (.goto 4, 27, 0, 0, 0)], 30),
  (30, [true, true, true, false, false], [(.lconst 0, 30, 0, 0, 0)], 31),
  (31, [true, true, true, false, false], [(.lastore, 31, 0, 0, 0), (.iconst 1, 32, 0, 0, 0), (.istore_n 3, 33, 0, 0, 0)], 34),
  (34, [true, true, true, true, false], [(.iload_n 3, 34, 0, 0, 0), (.iconst 5, 35, 0, 0, 0), (.if_icmp .gt 50, 36, 0, 0, 0), (.aload_n 0, 39, 0, 0, 0), (.getfield 71, 40, 11, 31, 116), (.iload_n 2, 43, 0, 0, 0), (.dup2, 44, 0, 0, 0), (.laload, 45, 0, 0, 0), (.aload_n 0, 46, 0, 0, 0), (.getfield 68, 47, 11, 30, 115), (.iload_n 3, 50, 0, 0, 0), (.iaload, 51, 0, 0, 0), (.i2l, 52, 0, 0, 0), (.iload_n 1, 53, 0, 0, 0), (.ifCond .eq 14, 54, 0, 0, 0), (.aload_n 0, 57, 0, 0, 0), (.getfield 59, 58, 11, 27, 112), (.iload_n 3, 61, 0, 0, 0), (.aaload, 62, 0, 0, 0), (.iload_n 2, 63, 0, 0, 0), (.iaload, 64, 0, 0, 0), (.goto 11, 65, 0, 0, 0)], 68),
  (68, [true, true, true, true, false], [(.aload_n 0, 68, 0, 0, 0), (.getfield 56, 69, 11, 26, 111), (.iload_n 3, 72, 0, 0, 0), (.aaload, 73, 0, 0, 0), (.iload_n 2, 74, 0, 0, 0), (.iaload, 75, 0, 0, 0)], 76),
  (76, [true, true, true, true, false], [(.i2l, 76, 0, 0, 0), (.lmul, 77, 0, 0, 0), (.ladd, 78, 0, 0, 0), (.lastore, 79, 0, 0, 0), (.iinc 3 1, 80, 0, 0, 0), (.goto (-49), 83, 0, 0, 0)], 86),
  (86, [true, true, true, false, false], [(.iinc 2 1, 86, 0, 0, 0), (.goto (-87), 89, 0, 0, 0)], 92),
  (92, [true, false, false, false, false], [(.sipush 227, 92, 0, 0, 0), (.istore_n 2, 95, 0, 0, 0)], 96),
  (96, [true, false, true, false, false], [(.iload_n 2, 96, 0, 0, 0), (.ifCond .le 65, 97, 0, 0, 0), (.aload_n 0, 100, 0, 0, 0), (.getfield 71, 101, 11, 31, 116), (.iload_n 2, 104, 0, 0, 0), (.laload, 105, 0, 0, 0), (.ldc2_w 215, 106, 0, 11, 10), (.ldiv, 109, 0, 0, 0), (.lstore_n 3, 110, 0, 0, 0), (.aload_n 0, 111, 0, 0, 0), (.getfield 71, 112, 11, 31, 116), (.iload_n 2, 115, 0, 0, 0), (.laload, 116, 0, 0, 0), (.ldc2_w 215, 117, 0, 11, 10), (.lload_n 3, 120, 0, 0, 0), (.lmul, 121, 0, 0, 0), (.lcmp, 122, 0, 0, 0), (.ifCond .ge 7, 123, 0, 0, 0), (.lload_n 3, 126, 0, 0, 0), (.lconst 1, 127, 0, 0, 0), (.lsub, 128, 0, 0, 0), (.lstore_n 3, 129, 0, 0, 0)], 130),
  (130, [true, false, true, true, false], [(.aload_n 0, 130, 0, 0, 0), (.getfield 71, 131, 11, 31, 116), (.iload_n 2, 134, 0, 0, 0), (.dup2, 135, 0, 0, 0), (.laload, 136, 0, 0, 0), (.ldc2_w 215, 137, 0, 11, 10), (.lload_n 3, 140, 0, 0, 0), (.lmul, 141, 0, 0, 0), (.lsub, 142, 0, 0, 0), (.lastore, 143, 0, 0, 0), (.aload_n 0, 144, 0, 0, 0), (.getfield 71, 145, 11, 31, 116), (.iload_n 2, 148, 0, 0, 0), (.iconst 1, 149, 0, 0, 0), (.isub, 150, 0, 0, 0), (.dup2, 151, 0, 0, 0), (.laload, 152, 0, 0, 0), (.lload_n 3, 153, 0, 0, 0), (.ladd, 154, 0, 0, 0), (.lastore, 155, 0, 0, 0), (.iinc 2 (-1), 156, 0, 0, 0), (.goto (-63), 159, 0, 0, 0)], 162),
  (162, [false, false, false, false, false], [(.return_, 162, 0, 0, 0)], 163)]
def z_md_216 : z_Md := (false, [], (fun t => z_B_216.lookup t), 5)
set_option maxRecDepth 100000 in
theorem z_gm_216 {mt : Nat → z_Md} (h : mt 216 = z_md_216) : z_gm z_mi mt 216 := z_okB_ok (o := 14) (vp := 0) (md := (false, [], 5)) (bl := z_B_216) h (fun z => absurd rfl z) (by decide +kernel)
/-- LacedHolesModel.signOfSum(Z)I -/
def z_B_217 : z_Bk := [(0, [true, true, false, false, false], [(.aload_n 0, 0, 0, 0, 0), (.getfield 68, 1, 11, 30, 115), (.iconst 0, 4, 0, 0, 0), (.iaload, 5, 0, 0, 0), (.i2l, 6, 0, 0, 0), (.ldc2_w 248, 7, 0, 14, 1000000000000), (.lmul, 10, 0, 0, 0), (.lstore_n 2, 11, 0, 0, 0), (.iconst 1, 12, 0, 0, 0), (.istore 4, 13, 0, 0, 0)], 15),
  (15, [true, true, true, false, true], [(.iload 4, 15, 0, 0, 0), (.iconst 5, 17, 0, 0, 0), (.if_icmp .gt 42, 18, 0, 0, 0), (.lload_n 2, 21, 0, 0, 0), (.aload_n 0, 22, 0, 0, 0), (.getfield 68, 23, 11, 30, 115), (.iload 4, 26, 0, 0, 0), (.iaload, 28, 0, 0, 0), (.i2l, 29, 0, 0, 0), (.iload_n 1, 30, 0, 0, 0), (.ifCond .eq 13, 31, 0, 0, 0), (.aload_n 0, 34, 0, 0, 0), (.getfield 44, 35, 11, 22, 107), (.iload 4, 38, 0, 0, 0), (.laload, 40, 0, 0, 0), (.goto 10, 41, 0, 0, 0)], 44),
  (44, [true, true, false, false, true], [(.aload_n 0, 44, 0, 0, 0), (.getfield 40, 45, 11, 21, 106), (.iload 4, 48, 0, 0, 0), (.laload, 50, 0, 0, 0)], 51),
  (51, [true, true, false, false, true], [(.lmul, 51, 0, 0, 0), (.ladd, 52, 0, 0, 0), (.lstore_n 2, 53, 0, 0, 0), (.iinc 4 1, 54, 0, 0, 0), (.goto (-42), 57, 0, 0, 0)], 60),
  (60, [true, true, true, false, false], [(.lload_n 2, 60, 0, 0, 0), (.ldc2_w 250, 61, 0, 15, 1000), (.lcmp, 64, 0, 0, 0), (.ifCond .gt 11, 65, 0, 0, 0), (.lload_n 2, 68, 0, 0, 0), (.ldc2_w 252, 69, 0, 16, (-1000)), (.lcmp, 72, 0, 0, 0), (.ifCond .ge 15, 73, 0, 0, 0)], 76),
  (76, [false, false, true, false, false], [(.lload_n 2, 76, 0, 0, 0), (.lconst 0, 77, 0, 0, 0), (.lcmp, 78, 0, 0, 0), (.ifCond .le 7, 79, 0, 0, 0), (.iconst 1, 82, 0, 0, 0), (.goto 4, 83, 0, 0, 0)], 86),
  (86, [false, false, false, false, false], [(.iconst (-1), 86, 0, 0, 0)], 87),
  (87, [false, false, false, false, false], [(.ireturn, 87, 0, 0, 0)], 88),
  (88, [true, true, false, false, false], [(.aload_n 0, 88, 0, 0, 0), (.iload_n 1, 89, 0, 0, 0), (.invokevirtual 254, 90, 215, 1, 5163), (.ifCond .eq 5, 93, 0, 0, 0), (.iconst 0, 96, 0, 0, 0), (.ireturn, 97, 0, 0, 0)], 98),
  (98, [true, true, false, false, false], [(.aload_n 0, 98, 0, 0, 0), (.iload_n 1, 99, 0, 0, 0), (.invokevirtual 258, 100, 216, 1, 4955), (.aload_n 0, 103, 0, 0, 0), (.getfield 71, 104, 11, 31, 116), (.iconst 0, 107, 0, 0, 0), (.laload, 108, 0, 0, 0), (.lconst 0, 109, 0, 0, 0), (.lcmp, 110, 0, 0, 0), (.ifCond .ge 7, 111, 0, 0, 0), (.iconst (-1), 114, 0, 0, 0), (.goto 4, 115, 0, 0, 0)], 118),
  (118, [false, false, false, false, false], [(.iconst 1, 118, 0, 0, 0)], 119),
  (119, [false, false, false, false, false], [(.ireturn, 119, 0, 0, 0)], 120)]
def z_md_217 : z_Md := (false, [], (fun t => z_B_217.lookup t), 5)
set_option maxRecDepth 100000 in
theorem z_gm_217 {mt : Nat → z_Md} (h : mt 217 = z_md_217) : z_gm z_mi mt 217 := z_okB_ok (o := 14) (vp := 0) (md := (false, [], 5)) (bl := z_B_217) h (fun z => absurd rfl z) (by decide +kernel)
/-- LacedHolesModel.setAgainst(JJZ)I -/
def z_B_218 : z_Bk := [(0, [true, true, false, true, false, true, false], [(.aload_n 0, 0, 0, 0, 0), (.getfield 68, 1, 11, 30, 115), (.iconst 0, 4, 0, 0, 0), (.iload 5, 5, 0, 0, 0), (.ifCond .eq 17, 7, 0, 0, 0), (.lload_n 1, 10, 0, 0, 0), (.iconst 0, 11, 0, 0, 0), (.invokestatic 262, 12, 214, 2, 306), (.lload_n 3, 15, 0, 0, 0), (.iconst 0, 16, 0, 0, 0), (.invokestatic 262, 17, 214, 2, 306), (.isub, 20, 0, 0, 0), (.goto 12, 21, 0, 0, 0)], 24),
  (24, [true, true, false, true, false, true, false], [(.lload_n 1, 24, 0, 0, 0), (.invokestatic 266, 25, 213, 1, 307), (.lload_n 3, 28, 0, 0, 0), (.invokestatic 266, 29, 213, 1, 307), (.isub, 32, 0, 0, 0)], 33),
  (33, [true, true, false, true, false, true, false], [(.iastore, 33, 0, 0, 0), (.iconst 1, 34, 0, 0, 0), (.istore 6, 35, 0, 0, 0)], 37),
  (37, [true, true, false, true, false, true, true], [(.iload 6, 37, 0, 0, 0), (.iconst 5, 39, 0, 0, 0), (.if_icmp .gt 29, 40, 0, 0, 0), (.aload_n 0, 43, 0, 0, 0), (.getfield 68, 44, 11, 30, 115), (.iload 6, 47, 0, 0, 0), (.lload_n 1, 49, 0, 0, 0), (.iload 6, 50, 0, 0, 0), (.invokestatic 262, 52, 214, 2, 306), (.lload_n 3, 55, 0, 0, 0), (.iload 6, 56, 0, 0, 0), (.invokestatic 262, 58, 214, 2, 306), (.isub, 61, 0, 0, 0), (.iastore, 62, 0, 0, 0), (.iinc 6 1, 63, 0, 0, 0), (.goto (-29), 66, 0, 0, 0)], 69),
  (69, [true, false, false, false, false, true, false], [(.aload_n 0, 69, 0, 0, 0), (.iload 5, 70, 0, 0, 0), (.invokevirtual 270, 72, 217, 1, 5147), (.ireturn, 75, 0, 0, 0)], 76)]
def z_md_218 : z_Md := (false, [], (fun t => z_B_218.lookup t), 7)
set_option maxRecDepth 100000 in
theorem z_gm_218 {mt : Nat → z_Md} (h : mt 218 = z_md_218) : z_gm z_mi mt 218 := z_okB_ok (o := 14) (vp := 0) (md := (false, [], 7)) (bl := z_B_218) h (fun z => absurd rfl z) (by decide +kernel)
/-- LacedHolesModel.isBetter(JJI)Z -/
def z_B_219 : z_Bk := [(0, [true, true, false, true, false, true], [(.iload 5, 0, 0, 0, 0), (.ifCond .ne 21, 2, 0, 0, 0), (.aload_n 0, 5, 0, 0, 0), (.lload_n 1, 6, 0, 0, 0), (.lload_n 3, 7, 0, 0, 0), (.iconst 0, 8, 0, 0, 0), (.invokevirtual 274, 9, 218, 3, 5515), (.ifCond .ge 7, 12, 0, 0, 0), (.iconst 1, 15, 0, 0, 0), (.goto 32, 16, 0, 0, 0)], 19),
  (19, [false, false, false, false, false, false], [(.iconst 0, 19, 0, 0, 0), (.goto 28, 20, 0, 0, 0)], 23),
  (23, [true, true, false, true, false, true], [(.aload_n 0, 23, 0, 0, 0), (.lload_n 1, 24, 0, 0, 0), (.lload_n 3, 25, 0, 0, 0), (.iload 5, 26, 0, 0, 0), (.iconst 2, 28, 0, 0, 0), (.if_icmp .ne 7, 29, 0, 0, 0), (.iconst 1, 32, 0, 0, 0), (.goto 4, 33, 0, 0, 0)], 36),
  (36, [false, false, false, false, false, false], [(.iconst 0, 36, 0, 0, 0)], 37),
  (37, [false, false, false, false, false, false], [(.invokevirtual 274, 37, 218, 3, 5515), (.ifCond .le 7, 40, 0, 0, 0), (.iconst 1, 43, 0, 0, 0), (.goto 4, 44, 0, 0, 0)], 47),
  (47, [false, false, false, false, false, false], [(.iconst 0, 47, 0, 0, 0)], 48),
  (48, [false, false, false, false, false, false], [(.ireturn, 48, 0, 0, 0)], 49)]
def z_md_219 : z_Md := (true, [], (fun t => z_B_219.lookup t), 6)
set_option maxRecDepth 100000 in
theorem z_gm_219 {mt : Nat → z_Md} (h : mt 219 = z_md_219) : z_gm z_mi mt 219 := z_okB_ok (o := 14) (vp := 0) (md := (true, [], 6)) (bl := z_B_219) h (fun z => absurd rfl z) (by decide +kernel)
/-- LacedHolesModel.laysSum(JZ)V -/
def z_B_220 : z_Bk := [(0, [true, true, false, true, false], [(.aload_n 0, 0, 0, 0, 0), (.getfield 68, 1, 11, 30, 115), (.iconst 0, 4, 0, 0, 0), (.iload_n 3, 5, 0, 0, 0), (.ifCond .eq 11, 6, 0, 0, 0), (.lload_n 1, 9, 0, 0, 0), (.iconst 0, 10, 0, 0, 0), (.invokestatic 262, 11, 214, 2, 306), (.goto 7, 14, 0, 0, 0)], 17),
  (17, [true, true, false, false, false], [(.lload_n 1, 17, 0, 0, 0), (.invokestatic 266, 18, 213, 1, 307)], 21),
  (21, [true, true, false, false, false], [(.iastore, 21, 0, 0, 0), (.iconst 1, 22, 0, 0, 0), (.istore 4, 23, 0, 0, 0)], 25),
  (25, [true, true, false, false, true], [(.iload 4, 25, 0, 0, 0), (.iconst 5, 27, 0, 0, 0), (.if_icmp .gt 22, 28, 0, 0, 0), (.aload_n 0, 31, 0, 0, 0), (.getfield 68, 32, 11, 30, 115), (.iload 4, 35, 0, 0, 0), (.lload_n 1, 37, 0, 0, 0), (.iload 4, 38, 0, 0, 0), (.invokestatic 262, 40, 214, 2, 306), (.iastore, 43, 0, 0, 0), (.iinc 4 1, 44, 0, 0, 0), (.goto (-22), 47, 0, 0, 0)], 50),
  (50, [false, false, false, false, false], [(.return_, 50, 0, 0, 0)], 51)]
def z_md_220 : z_Md := (false, [], (fun t => z_B_220.lookup t), 5)
set_option maxRecDepth 100000 in
theorem z_gm_220 {mt : Nat → z_Md} (h : mt 220 = z_md_220) : z_gm z_mi mt 220 := z_okB_ok (o := 14) (vp := 0) (md := (false, [], 5)) (bl := z_B_220) h (fun z => absurd rfl z) (by decide +kernel)
/-- LacedHolesModel.cut(JZ)I -/
def z_B_221 : z_Bk := [(0, [true, true, false, true], [(.aload_n 0, 0, 0, 0, 0), (.lload_n 1, 1, 0, 0, 0), (.iload_n 3, 2, 0, 0, 0), (.invokevirtual 278, 3, 220, 2, 4891), (.aload_n 0, 6, 0, 0, 0), (.iload_n 3, 7, 0, 0, 0), (.invokevirtual 282, 8, 222, 1, 4939), (.ireturn, 11, 0, 0, 0)], 12)]
def z_md_221 : z_Md := (false, [], (fun t => z_B_221.lookup t), 4)
set_option maxRecDepth 100000 in
theorem z_gm_221 {mt : Nat → z_Md} (h : mt 221 = z_md_221) : z_gm z_mi mt 221 := z_okB_ok (o := 14) (vp := 0) (md := (false, [], 4)) (bl := z_B_221) h (fun z => absurd rfl z) (by decide +kernel)
/-- LacedHolesModel.cutSum(Z)I -/
def z_B_222 : z_Bk := [(0, [true, true, false, false, false, false, false, false, false], [(.iload_n 1, 0, 0, 0, 0), (.ifCond .eq 8, 1, 0, 0, 0), (.bipush 6, 4, 0, 0, 0), (.goto 4, 6, 0, 0, 0)], 9),
  (9, [true, true, false, false, false, false, false, false, false], [(.iconst 3, 9, 0, 0, 0)], 10),
  (10, [true, true, false, false, false, false, false, false, false], [(.istore_n 2, 10, 0, 0, 0), (.iconst 1, 11, 0, 0, 0), (.istore_n 3, 12, 0, 0, 0), (.iconst 1, 13, 0, 0, 0), (.istore 4, 14, 0, 0, 0)], 16),
  (16, [true, true, true, true, true, false, false, false, false], [(.iload 4, 16, 0, 0, 0), (.iconst 5, 18, 0, 0, 0), (.if_icmp .gt 40, 19, 0, 0, 0), (.iload_n 3, 22, 0, 0, 0), (.ifCond .eq 28, 23, 0, 0, 0), (.aload_n 0, 26, 0, 0, 0), (.getfield 68, 27, 11, 30, 115), (.iload 4, 30, 0, 0, 0), (.iaload, 32, 0, 0, 0), (.ifCond .eq 14, 33, 0, 0, 0), (.aload_n 0, 36, 0, 0, 0), (.getfield 53, 37, 11, 25, 110), (.iload 4, 40, 0, 0, 0), (.iaload, 42, 0, 0, 0), (.iconst 1, 43, 0, 0, 0), (.if_icmp .ne 7, 44, 0, 0, 0)], 47),
  (47, [true, true, true, false, true, false, false, false, false], [(.iconst 1, 47, 0, 0, 0), (.goto 4, 48, 0, 0, 0)], 51),
  (51, [true, true, true, false, true, false, false, false, false], [(.iconst 0, 51, 0, 0, 0)], 52),
  (52, [true, true, true, false, true, false, false, false, false], [(.istore_n 3, 52, 0, 0, 0), (.iinc 4 1, 53, 0, 0, 0), (.goto (-40), 56, 0, 0, 0)], 59),
  (59, [true, true, true, true, false, false, false, false, false], [(.iload_n 3, 59, 0, 0, 0), (.ifCond .eq 118, 60, 0, 0, 0), (.iload_n 1, 63, 0, 0, 0), (.ifCond .eq 114, 64, 0, 0, 0), (.aload_n 0, 67, 0, 0, 0), (.getfield 68, 68, 11, 30, 115), (.iconst 0, 71, 0, 0, 0), (.iaload, 72, 0, 0, 0), (.i2l, 73, 0, 0, 0), (.lstore 4, 74, 0, 0, 0), (.lconst 1, 76, 0, 0, 0), (.lstore 6, 77, 0, 0, 0), (.iconst 1, 79, 0, 0, 0), (.istore 8, 80, 0, 0, 0)], 82),
  (82, [true, false, false, false, true, false, true, false, true], [(.iload 8, 82, 0, 0, 0), (.iconst 5, 84, 0, 0, 0), (.if_icmp .gt 68, 85, 0, 0, 0), (.aload_n 0, 88, 0, 0, 0), (.getfield 68, 89, 11, 30, 115), (.iload 8, 92, 0, 0, 0), (.iaload, 94, 0, 0, 0), (.ifCond .ne 6, 95, 0, 0, 0), (.goto 49, 98, 0, 0, 0)], 101),
  (101, [true, false, false, false, true, false, true, false, true], [(.lload 4, 101, 0, 0, 0), (.aload_n 0, 103, 0, 0, 0), (.getfield 50, 104, 11, 24, 109), (.iload 8, 107, 0, 0, 0), (.iaload, 109, 0, 0, 0), (.i2l, 110, 0, 0, 0), (.lmul, 111, 0, 0, 0), (.aload_n 0, 112, 0, 0, 0), (.getfield 68, 113, 11, 30, 115), (.iload 8, 116, 0, 0, 0), (.iaload, 118, 0, 0, 0), (.i2l, 119, 0, 0, 0), (.aload_n 0, 120, 0, 0, 0), (.getfield 20, 121, 11, 10, 95), (.iconst 2, 124, 0, 0, 0), (.iaload, 125, 0, 0, 0), (.i2l, 126, 0, 0, 0), (.lmul, 127, 0, 0, 0), (.lload 6, 128, 0, 0, 0), (.lmul, 130, 0, 0, 0), (.ladd, 131, 0, 0, 0), (.lstore 4, 132, 0, 0, 0), (.lload 6, 134, 0, 0, 0), (.aload_n 0, 136, 0, 0, 0), (.getfield 50, 137, 11, 24, 109), (.iload 8, 140, 0, 0, 0), (.iaload, 142, 0, 0, 0), (.i2l, 143, 0, 0, 0), (.lmul, 144, 0, 0, 0), (.lstore 6, 145, 0, 0, 0)], 147),
  (147, [true, false, false, false, true, false, true, false, true], [(.iinc 8 1, 147, 0, 0, 0), (.goto (-68), 150, 0, 0, 0)], 153),
  (153, [false, false, false, false, true, false, true, false, false], [(.lload 4, 153, 0, 0, 0), (.lload 6, 155, 0, 0, 0), (.ldiv, 157, 0, 0, 0), (.l2i, 158, 0, 0, 0), (.ldc_w 285, 159, 0, 11, 1000000), (.imul, 162, 0, 0, 0), (.lload 4, 163, 0, 0, 0), (.lload 6, 165, 0, 0, 0), (.lrem, 167, 0, 0, 0), (.ldc2_w 286, 168, 0, 13, 1000000), (.lmul, 171, 0, 0, 0), (.lload 6, 172, 0, 0, 0), (.ldiv, 174, 0, 0, 0), (.l2i, 175, 0, 0, 0), (.iadd, 176, 0, 0, 0), (.ireturn, 177, 0, 0, 0)], 178),
  (178, [true, true, true, false, false, false, false, false, false], [(.aload_n 0, 178, 0, 0, 0), (.iload_n 1, 179, 0, 0, 0), (.invokevirtual 258, 180, 216, 1, 4955), (.iconst 0, 183, 0, 0, 0), (.istore 4, 184, 0, 0, 0), (.iconst 0, 186, 0, 0, 0), (.istore 5, 187, 0, 0, 0)], 189),
  (189, [true, false, true, false, true, true, false, false, false], [(.iload 5, 189, 0, 0, 0), (.bipush 8, 191, 0, 0, 0), (.iload_n 2, 193, 0, 0, 0), (.iadd, 194, 0, 0, 0), (.if_icmp .ge 25, 195, 0, 0, 0), (.bipush 10, 198, 0, 0, 0), (.iload 4, 200, 0, 0, 0), (.imul, 202, 0, 0, 0), (.aload_n 0, 203, 0, 0, 0), (.getfield 71, 204, 11, 31, 116), (.iload 5, 207, 0, 0, 0), (.laload, 209, 0, 0, 0), (.l2i, 210, 0, 0, 0), (.iadd, 211, 0, 0, 0), (.istore 4, 212, 0, 0, 0), (.iinc 5 1, 214, 0, 0, 0), (.goto (-28), 217, 0, 0, 0)], 220),
  (220, [false, false, false, false, true, false, false, false, false], [(.iload 4, 220, 0, 0, 0), (.ireturn, 222, 0, 0, 0)], 223)]
def z_md_222 : z_Md := (false, [], (fun t => z_B_222.lookup t), 9)
set_option maxRecDepth 100000 in
theorem z_gm_222 {mt : Nat → z_Md} (h : mt 222 = z_md_222) : z_gm z_mi mt 222 := z_okB_ok (o := 14) (vp := 0) (md := (false, [], 9)) (bl := z_B_222) h (fun z => absurd rfl z) (by decide +kernel)
/-- LacedHolesModel.span(II)I -/
def z_B_223 : z_Bk := [(0, [true, true, true], [(.aload_n 0, 0, 0, 0, 0), (.iconst 0, 1, 0, 0, 0), (.putfield 112, 2, 11, 0, 85), (.aload_n 0, 5, 0, 0, 0), (.iload_n 1, 6, 0, 0, 0), (.iconst 0, 7, 0, 0, 0), (.aload_n 0, 8, 0, 0, 0), (.invokevirtual 204, 9, 199, 0, 4699), (.iconst 1, 12, 0, 0, 0), (.isub, 13, 0, 0, 0), (.invokestatic 150, 14, 180, 3, 279), (.ifCond .eq 17, 17, 0, 0, 0), (.iload_n 2, 20, 0, 0, 0), (.iconst 0, 21, 0, 0, 0), (.aload_n 0, 22, 0, 0, 0), (.invokevirtual 204, 23, 199, 0, 4699), (.iconst 1, 26, 0, 0, 0), (.isub, 27, 0, 0, 0), (.invokestatic 150, 28, 180, 3, 279), (.ifCond .ne 7, 31, 0, 0, 0)], 34),
  (34, [true, true, true], [(.iconst 1, 34, 0, 0, 0), (.goto 4, 35, 0, 0, 0)], 38),
  (38, [true, true, true], [(.iconst 0, 38, 0, 0, 0)], 39),
  (39, [true, true, true], [(.iconst 1, 39, 0, 0, 0), (.invokevirtual 172, 40, 179, 2, 4491), (.ifCond .ne 21, 43, 0, 0, 0), (.aload_n 0, 46, 0, 0, 0), (.iload_n 1, 47, 0, 0, 0), (.iload_n 2, 48, 0, 0, 0), (.if_icmp .ne 7, 49, 0, 0, 0), (.iconst 1, 52, 0, 0, 0), (.goto 4, 53, 0, 0, 0)], 56),
  (56, [true, true, true], [(.iconst 0, 56, 0, 0, 0)], 57),
  (57, [true, true, true], [(.iconst 2, 57, 0, 0, 0), (.invokevirtual 172, 58, 179, 2, 4491), (.ifCond .eq 5, 61, 0, 0, 0)], 64),
  (64, [false, false, false], [(.iconst 0, 64, 0, 0, 0), (.ireturn, 65, 0, 0, 0)], 66),
  (66, [true, true, true], [(.aload_n 0, 66, 0, 0, 0), (.aload_n 0, 67, 0, 0, 0), (.iload_n 1, 68, 0, 0, 0), (.iload_n 2, 69, 0, 0, 0), (.invokevirtual 288, 70, 212, 2, 4811), (.iconst 0, 73, 0, 0, 0), (.invokevirtual 292, 74, 221, 2, 4875), (.ireturn, 77, 0, 0, 0)], 78)]
def z_md_223 : z_Md := (false, [], (fun t => z_B_223.lookup t), 3)
set_option maxRecDepth 100000 in
theorem z_gm_223 {mt : Nat → z_Md} (h : mt 223 = z_md_223) : z_gm z_mi mt 223 := z_okB_ok (o := 14) (vp := 0) (md := (false, [], 3)) (bl := z_B_223) h (fun z => absurd rfl z) (by decide +kernel)
/-- LacedHolesModel.at(I)I -/
def z_B_224 : z_Bk := [(0, [true, true], [(.aload_n 0, 0, 0, 0, 0), (.iconst 0, 1, 0, 0, 0), (.putfield 112, 2, 11, 0, 85), (.iload_n 1, 5, 0, 0, 0), (.iconst 0, 6, 0, 0, 0), (.aload_n 0, 7, 0, 0, 0), (.getfield 189, 8, 11, 13, 98), (.iconst 1, 11, 0, 0, 0), (.isub, 12, 0, 0, 0), (.invokestatic 150, 13, 180, 3, 279), (.ifCond .eq 12, 16, 0, 0, 0), (.aload_n 0, 19, 0, 0, 0), (.getfield 26, 20, 11, 12, 97), (.iload_n 1, 23, 0, 0, 0), (.iaload, 24, 0, 0, 0), (.goto 4, 25, 0, 0, 0)], 28),
  (28, [false, false], [(.iconst (-1), 28, 0, 0, 0)], 29),
  (29, [false, false], [(.ireturn, 29, 0, 0, 0)], 30)]
def z_md_224 : z_Md := (false, [], (fun t => z_B_224.lookup t), 2)
set_option maxRecDepth 100000 in
theorem z_gm_224 {mt : Nat → z_Md} (h : mt 224 = z_md_224) : z_gm z_mi mt 224 := z_okB_ok (o := 14) (vp := 0) (md := (false, [], 2)) (bl := z_B_224) h (fun z => absurd rfl z) (by decide +kernel)
/-- LacedHolesModel.nextOf(I)I -/
def z_B_225 : z_Bk := [(0, [true, true], [(.aload_n 0, 0, 0, 0, 0), (.getfield 26, 1, 11, 12, 97), (.iload_n 1, 4, 0, 0, 0), (.iconst 1, 5, 0, 0, 0), (.iadd, 6, 0, 0, 0), (.aload_n 0, 7, 0, 0, 0), (.getfield 189, 8, 11, 13, 98), (.irem, 11, 0, 0, 0), (.iaload, 12, 0, 0, 0), (.ireturn, 13, 0, 0, 0)], 14)]
def z_md_225 : z_Md := (false, [], (fun t => z_B_225.lookup t), 2)
set_option maxRecDepth 100000 in
theorem z_gm_225 {mt : Nat → z_Md} (h : mt 225 = z_md_225) : z_gm z_mi mt 225 := z_okB_ok (o := 14) (vp := 0) (md := (false, [], 2)) (bl := z_B_225) h (fun z => absurd rfl z) (by decide +kernel)
/-- LacedHolesModel.aheadOf(I)I -/
def z_B_226 : z_Bk := [(0, [true, true], [(.aload_n 0, 0, 0, 0, 0), (.getfield 26, 1, 11, 12, 97), (.iload_n 1, 4, 0, 0, 0), (.aload_n 0, 5, 0, 0, 0), (.getfield 189, 6, 11, 13, 98), (.iadd, 9, 0, 0, 0), (.iconst 1, 10, 0, 0, 0), (.isub, 11, 0, 0, 0), (.aload_n 0, 12, 0, 0, 0), (.getfield 189, 13, 11, 13, 98), (.irem, 16, 0, 0, 0), (.iaload, 17, 0, 0, 0), (.ireturn, 18, 0, 0, 0)], 19)]
def z_md_226 : z_Md := (false, [], (fun t => z_B_226.lookup t), 2)
set_option maxRecDepth 100000 in
theorem z_gm_226 {mt : Nat → z_Md} (h : mt 226 = z_md_226) : z_gm z_mi mt 226 := z_okB_ok (o := 14) (vp := 0) (md := (false, [], 2)) (bl := z_B_226) h (fun z => absurd rfl z) (by decide +kernel)
/-- LacedHolesModel.mayBe(ZZ)Z -/
def z_B_227 : z_Bk := [(0, [true, true, true], [(.aload_n 0, 0, 0, 0, 0), (.getfield 20, 1, 11, 10, 95), (.iconst 4, 4, 0, 0, 0), (.iaload, 5, 0, 0, 0), (.ifCond .eq 29, 6, 0, 0, 0), (.aload_n 0, 9, 0, 0, 0), (.getfield 20, 10, 11, 10, 95), (.iconst 4, 13, 0, 0, 0), (.iaload, 14, 0, 0, 0), (.iconst 1, 15, 0, 0, 0), (.if_icmp .ne 14, 16, 0, 0, 0), (.iload_n 1, 19, 0, 0, 0), (.ifCond .ne 15, 20, 0, 0, 0), (.iload_n 2, 23, 0, 0, 0), (.ifCond .eq 15, 24, 0, 0, 0), (.goto 8, 27, 0, 0, 0)], 30),
  (30, [false, true, true], [(.iload_n 1, 30, 0, 0, 0), (.iload_n 2, 31, 0, 0, 0), (.if_icmp .eq 7, 32, 0, 0, 0)], 35),
  (35, [false, false, false], [(.iconst 1, 35, 0, 0, 0), (.goto 4, 36, 0, 0, 0)], 39),
  (39, [false, false, false], [(.iconst 0, 39, 0, 0, 0)], 40),
  (40, [false, false, false], [(.ireturn, 40, 0, 0, 0)], 41)]
def z_md_227 : z_Md := (true, [], (fun t => z_B_227.lookup t), 3)
set_option maxRecDepth 100000 in
theorem z_gm_227 {mt : Nat → z_Md} (h : mt 227 = z_md_227) : z_gm z_mi mt 227 := z_okB_ok (o := 14) (vp := 0) (md := (true, [], 3)) (bl := z_B_227) h (fun z => absurd rfl z) (by decide +kernel)
/-- LacedHolesModel.isAgainst(I)Z -/
def z_B_228 : z_Bk := [(0, [true, true], [(.aload_n 0, 0, 0, 0, 0), (.aload_n 0, 1, 0, 0, 0), (.aload_n 0, 2, 0, 0, 0), (.iload_n 1, 3, 0, 0, 0), (.invokevirtual 296, 4, 226, 1, 5051), (.aload_n 0, 7, 0, 0, 0), (.getfield 26, 8, 11, 12, 97), (.iload_n 1, 11, 0, 0, 0), (.iaload, 12, 0, 0, 0), (.invokevirtual 242, 13, 211, 2, 4859), (.aload_n 0, 16, 0, 0, 0), (.aload_n 0, 17, 0, 0, 0), (.getfield 26, 18, 11, 12, 97), (.iload_n 1, 21, 0, 0, 0), (.iaload, 22, 0, 0, 0), (.aload_n 0, 23, 0, 0, 0), (.iload_n 1, 24, 0, 0, 0), (.invokevirtual 299, 25, 225, 1, 5067), (.invokevirtual 242, 28, 211, 2, 4859), (.invokevirtual 302, 31, 227, 2, 5083), (.ifCond .ne 7, 34, 0, 0, 0), (.iconst 1, 37, 0, 0, 0), (.goto 4, 38, 0, 0, 0)], 41),
  (41, [false, false], [(.iconst 0, 41, 0, 0, 0)], 42),
  (42, [false, false], [(.ireturn, 42, 0, 0, 0)], 43)]
def z_md_228 : z_Md := (true, [], (fun t => z_B_228.lookup t), 2)
set_option maxRecDepth 100000 in
theorem z_gm_228 {mt : Nat → z_Md} (h : mt 228 = z_md_228) : z_gm z_mi mt 228 := z_okB_ok (o := 14) (vp := 0) (md := (true, [], 2)) (bl := z_B_228) h (fun z => absurd rfl z) (by decide +kernel)
/-- LacedHolesModel.judged()I -/
def z_B_229 : z_Bk := [(0, [true, false], [(.iconst 0, 0, 0, 0, 0), (.istore_n 1, 1, 0, 0, 0)], 2),
  (2, [true, true], [(.iload_n 1, 2, 0, 0, 0), (.aload_n 0, 3, 0, 0, 0), (.getfield 189, 4, 11, 13, 98), (.if_icmp .ge 24, 7, 0, 0, 0), (.aload_n 0, 10, 0, 0, 0), (.iload_n 1, 11, 0, 0, 0), (.invokevirtual 306, 12, 228, 1, 5035), (.ifCond .eq 10, 15, 0, 0, 0), (.aload_n 0, 18, 0, 0, 0), (.getfield 26, 19, 11, 12, 97), (.iload_n 1, 22, 0, 0, 0), (.iaload, 23, 0, 0, 0), (.ireturn, 24, 0, 0, 0)], 25),
  (25, [true, true], [(.iinc 1 1, 25, 0, 0, 0), (.goto (-26), 28, 0, 0, 0)], 31),
  (31, [false, false], [(.iconst (-1), 31, 0, 0, 0), (.ireturn, 32, 0, 0, 0)], 33)]
def z_md_229 : z_Md := (false, [], (fun t => z_B_229.lookup t), 2)
set_option maxRecDepth 100000 in
theorem z_gm_229 {mt : Nat → z_Md} (h : mt 229 = z_md_229) : z_gm z_mi mt 229 := z_okB_ok (o := 14) (vp := 0) (md := (false, [], 2)) (bl := z_B_229) h (fun z => absurd rfl z) (by decide +kernel)
/-- LacedHolesModel.badWay()Z -/
def z_B_230 : z_Bk := [(0, [true], [(.aload_n 0, 0, 0, 0, 0), (.aload_n 0, 1, 0, 0, 0), (.getfield 189, 2, 11, 13, 98), (.ifCond .ne 7, 5, 0, 0, 0), (.iconst 1, 8, 0, 0, 0), (.goto 4, 9, 0, 0, 0)], 12),
  (12, [false], [(.iconst 0, 12, 0, 0, 0)], 13),
  (13, [false], [(.iconst 1, 13, 0, 0, 0), (.invokevirtual 172, 14, 179, 2, 4491), (.ireturn, 17, 0, 0, 0)], 18)]
def z_md_230 : z_Md := (true, [], (fun t => z_B_230.lookup t), 1)
set_option maxRecDepth 100000 in
theorem z_gm_230 {mt : Nat → z_Md} (h : mt 230 = z_md_230) : z_gm z_mi mt 230 := z_okB_ok (o := 14) (vp := 0) (md := (true, [], 1)) (bl := z_B_230) h (fun z => absurd rfl z) (by decide +kernel)
/-- LacedHolesModel.judge()I -/
def z_B_231 : z_Bk := [(0, [true], [(.aload_n 0, 0, 0, 0, 0), (.iconst 0, 1, 0, 0, 0), (.putfield 112, 2, 11, 0, 85), (.aload_n 0, 5, 0, 0, 0), (.invokevirtual 309, 6, 230, 0, 5003), (.ifCond .eq 5, 9, 0, 0, 0), (.iconst 0, 12, 0, 0, 0), (.ireturn, 13, 0, 0, 0)], 14),
  (14, [true], [(.aload_n 0, 14, 0, 0, 0), (.invokevirtual 313, 15, 229, 0, 5019), (.ireturn, 18, 0, 0, 0)], 19)]
def z_md_231 : z_Md := (false, [], (fun t => z_B_231.lookup t), 1)
set_option maxRecDepth 100000 in
theorem z_gm_231 {mt : Nat → z_Md} (h : mt 231 = z_md_231) : z_gm z_mi mt 231 := z_okB_ok (o := 14) (vp := 0) (md := (false, [], 1)) (bl := z_B_231) h (fun z => absurd rfl z) (by decide +kernel)
/-- LacedHolesModel.wayLength()J -/
def z_B_232 : z_Bk := [(0, [true, false, false, false], [(.lconst 0, 0, 0, 0, 0), (.lstore_n 1, 1, 0, 0, 0), (.iconst 0, 2, 0, 0, 0), (.istore_n 3, 3, 0, 0, 0)], 4),
  (4, [true, true, false, true], [(.iload_n 3, 4, 0, 0, 0), (.aload_n 0, 5, 0, 0, 0), (.getfield 189, 6, 11, 13, 98), (.if_icmp .ge 27, 9, 0, 0, 0), (.lload_n 1, 12, 0, 0, 0), (.aload_n 0, 13, 0, 0, 0), (.aload_n 0, 14, 0, 0, 0), (.getfield 26, 15, 11, 12, 97), (.iload_n 3, 18, 0, 0, 0), (.iaload, 19, 0, 0, 0), (.aload_n 0, 20, 0, 0, 0), (.iload_n 3, 21, 0, 0, 0), (.invokevirtual 299, 22, 225, 1, 5067), (.invokevirtual 288, 25, 212, 2, 4811), (.ladd, 28, 0, 0, 0), (.lstore_n 1, 29, 0, 0, 0), (.iinc 3 1, 30, 0, 0, 0), (.goto (-29), 33, 0, 0, 0)], 36),
  (36, [false, true, false, false], [(.lload_n 1, 36, 0, 0, 0), (.lreturn, 37, 0, 0, 0)], 38)]
def z_md_232 : z_Md := (false, [], (fun t => z_B_232.lookup t), 4)
set_option maxRecDepth 100000 in
theorem z_gm_232 {mt : Nat → z_Md} (h : mt 232 = z_md_232) : z_gm z_mi mt 232 := z_okB_ok (o := 14) (vp := 0) (md := (false, [], 4)) (bl := z_B_232) h (fun z => absurd rfl z) (by decide +kernel)
/-- LacedHolesModel.isShortEnough(J)Z -/
def z_B_233 : z_Bk := [(0, [true, true, false], [(.aload_n 0, 0, 0, 0, 0), (.lload_n 1, 1, 0, 0, 0), (.iconst 0, 2, 0, 0, 0), (.invokevirtual 278, 3, 220, 2, 4891), (.aload_n 0, 6, 0, 0, 0), (.getfield 68, 7, 11, 30, 115), (.iconst 0, 10, 0, 0, 0), (.dup2, 11, 0, 0, 0), (.iaload, 12, 0, 0, 0), (.aload_n 0, 13, 0, 0, 0), (.getfield 20, 14, 11, 10, 95), (.iconst 5, 17, 0, 0, 0), (.iaload, 18, 0, 0, 0), (.isub, 19, 0, 0, 0), (.iastore, 20, 0, 0, 0), (.aload_n 0, 21, 0, 0, 0), (.iconst 0, 22, 0, 0, 0), (.invokevirtual 270, 23, 217, 1, 5147), (.ifCond .gt 7, 26, 0, 0, 0), (.iconst 1, 29, 0, 0, 0), (.goto 4, 30, 0, 0, 0)], 33),
  (33, [false, false, false], [(.iconst 0, 33, 0, 0, 0)], 34),
  (34, [false, false, false], [(.ireturn, 34, 0, 0, 0)], 35)]
def z_md_233 : z_Md := (true, [], (fun t => z_B_233.lookup t), 3)
set_option maxRecDepth 100000 in
theorem z_gm_233 {mt : Nat → z_Md} (h : mt 233 = z_md_233) : z_gm z_mi mt 233 := z_okB_ok (o := 14) (vp := 0) (md := (true, [], 3)) (bl := z_B_233) h (fun z => absurd rfl z) (by decide +kernel)
/-- LacedHolesModel.measure(I)I -/
def z_B_234 : z_Bk := [(0, [true, true, false, false, false, false, false], [(.aload_n 0, 0, 0, 0, 0), (.iconst 0, 1, 0, 0, 0), (.putfield 112, 2, 11, 0, 85), (.aload_n 0, 5, 0, 0, 0), (.invokevirtual 309, 6, 230, 0, 5003), (.ifCond .ne 25, 9, 0, 0, 0), (.aload_n 0, 12, 0, 0, 0), (.iload_n 1, 13, 0, 0, 0), (.iconst 0, 14, 0, 0, 0), (.iconst 4, 15, 0, 0, 0), (.invokestatic 150, 16, 180, 3, 279), (.ifCond .ne 7, 19, 0, 0, 0), (.iconst 1, 22, 0, 0, 0), (.goto 4, 23, 0, 0, 0)], 26),
  (26, [true, true, false, false, false, false, false], [(.iconst 0, 26, 0, 0, 0)], 27),
  (27, [true, true, false, false, false, false, false], [(.iconst 2, 27, 0, 0, 0), (.invokevirtual 172, 28, 179, 2, 4491), (.ifCond .eq 5, 31, 0, 0, 0)], 34),
  (34, [false, false, false, false, false, false, false], [(.iconst 0, 34, 0, 0, 0), (.ireturn, 35, 0, 0, 0)], 36),
  (36, [true, true, false, false, false, false, false], [(.iload_n 1, 36, 0, 0, 0), (.iconst 2, 37, 0, 0, 0), (.if_icmp .ge 22, 38, 0, 0, 0), (.aload_n 0, 41, 0, 0, 0), (.aload_n 0, 42, 0, 0, 0), (.invokevirtual 316, 43, 232, 0, 5115), (.iload_n 1, 46, 0, 0, 0), (.iconst 1, 47, 0, 0, 0), (.if_icmp .ne 7, 48, 0, 0, 0), (.iconst 1, 51, 0, 0, 0), (.goto 4, 52, 0, 0, 0)], 55),
  (55, [false, false, false, false, false, false, false], [(.iconst 0, 55, 0, 0, 0)], 56),
  (56, [false, false, false, false, false, false, false], [(.invokevirtual 292, 56, 221, 2, 4875), (.ireturn, 59, 0, 0, 0)], 60),
  (60, [true, true, false, false, false, false, false], [(.iload_n 1, 60, 0, 0, 0), (.iconst 4, 61, 0, 0, 0), (.if_icmp .ne 20, 62, 0, 0, 0), (.aload_n 0, 65, 0, 0, 0), (.aload_n 0, 66, 0, 0, 0), (.invokevirtual 316, 67, 232, 0, 5115), (.invokevirtual 320, 70, 233, 1, 5131), (.ifCond .eq 7, 73, 0, 0, 0), (.iconst 1, 76, 0, 0, 0), (.goto 4, 77, 0, 0, 0)], 80),
  (80, [false, false, false, false, false, false, false], [(.iconst 0, 80, 0, 0, 0)], 81),
  (81, [false, false, false, false, false, false, false], [(.ireturn, 81, 0, 0, 0)], 82),
  (82, [true, true, false, false, false, false, false], [(.iconst 0, 82, 0, 0, 0), (.istore_n 2, 83, 0, 0, 0), (.iconst 0, 84, 0, 0, 0), (.istore_n 3, 85, 0, 0, 0), (.iconst 0, 86, 0, 0, 0), (.istore 4, 87, 0, 0, 0)], 89),
  (89, [true, true, true, true, true, false, false], [(.iload 4, 89, 0, 0, 0), (.aload_n 0, 91, 0, 0, 0), (.getfield 189, 92, 11, 13, 98), (.if_icmp .ge 78, 95, 0, 0, 0), (.aload_n 0, 98, 0, 0, 0), (.aload_n 0, 99, 0, 0, 0), (.iload 4, 100, 0, 0, 0), (.invokevirtual 296, 102, 226, 1, 5051), (.aload_n 0, 105, 0, 0, 0), (.getfield 26, 106, 11, 12, 97), (.iload 4, 109, 0, 0, 0), (.iaload, 111, 0, 0, 0), (.invokevirtual 242, 112, 211, 2, 4859), (.istore 5, 115, 0, 0, 0), (.aload_n 0, 117, 0, 0, 0), (.aload_n 0, 118, 0, 0, 0), (.getfield 26, 119, 11, 12, 97), (.iload 4, 122, 0, 0, 0), (.iaload, 124, 0, 0, 0), (.aload_n 0, 125, 0, 0, 0), (.iload 4, 126, 0, 0, 0), (.invokevirtual 299, 128, 225, 1, 5067), (.invokevirtual 242, 131, 211, 2, 4859), (.istore 6, 134, 0, 0, 0), (.iload_n 2, 136, 0, 0, 0), (.iload 6, 137, 0, 0, 0), (.ifCond .eq 7, 139, 0, 0, 0), (.iconst 1, 142, 0, 0, 0), (.goto 4, 143, 0, 0, 0)], 146),
  (146, [true, true, false, true, true, true, true], [(.iconst 0, 146, 0, 0, 0)], 147),
  (147, [true, true, false, true, true, true, true], [(.iadd, 147, 0, 0, 0), (.istore_n 2, 148, 0, 0, 0), (.iload_n 3, 149, 0, 0, 0), (.iload 5, 150, 0, 0, 0), (.ifCond .ne 8, 152, 0, 0, 0), (.iload 6, 155, 0, 0, 0), (.ifCond .eq 7, 157, 0, 0, 0)], 160),
  (160, [true, true, true, false, true, false, false], [(.iconst 0, 160, 0, 0, 0), (.goto 4, 161, 0, 0, 0)], 164),
  (164, [true, true, true, false, true, false, false], [(.iconst 1, 164, 0, 0, 0)], 165),
  (165, [true, true, true, false, true, false, false], [(.iadd, 165, 0, 0, 0), (.istore_n 3, 166, 0, 0, 0), (.iinc 4 1, 167, 0, 0, 0), (.goto (-81), 170, 0, 0, 0)], 173),
  (173, [false, true, true, true, false, false, false], [(.iload_n 1, 173, 0, 0, 0), (.iconst 2, 174, 0, 0, 0), (.if_icmp .ne 7, 175, 0, 0, 0), (.iload_n 2, 178, 0, 0, 0), (.goto 4, 179, 0, 0, 0)], 182),
  (182, [false, false, false, true, false, false, false], [(.iload_n 3, 182, 0, 0, 0)], 183),
  (183, [false, false, false, false, false, false, false], [(.ireturn, 183, 0, 0, 0)], 184)]
def z_md_234 : z_Md := (false, [], (fun t => z_B_234.lookup t), 7)
set_option maxRecDepth 100000 in
theorem z_gm_234 {mt : Nat → z_Md} (h : mt 234 = z_md_234) : z_gm z_mi mt 234 := z_okB_ok (o := 14) (vp := 0) (md := (false, [], 7)) (bl := z_B_234) h (fun z => absurd rfl z) (by decide +kernel)
