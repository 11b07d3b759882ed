/-! ===== the methods' texts, checked (5) ===== -/
/-- LacedHolesModel.becomes(II)I -/
def z_B_267 : z_Bk := [(0, [true, true, true, false], [(.iload_n 2, 0, 0, 0, 0), (.iconst 1, 1, 0, 0, 0), (.iand, 2, 0, 0, 0), (.iconst 1, 3, 0, 0, 0), (.if_icmp .ne 20, 4, 0, 0, 0), (.aload_n 0, 7, 0, 0, 0), (.getfield 20, 8, 11, 10, 95), (.iconst 0, 11, 0, 0, 0), (.iaload, 12, 0, 0, 0), (.iconst 1, 13, 0, 0, 0), (.isub, 14, 0, 0, 0), (.aload_n 0, 15, 0, 0, 0), (.iload_n 1, 16, 0, 0, 0), (.invokevirtual 239, 17, 210, 1, 4827), (.isub, 20, 0, 0, 0), (.goto 8, 21, 0, 0, 0)], 24),
  (24, [true, true, true, false], [(.aload_n 0, 24, 0, 0, 0), (.iload_n 1, 25, 0, 0, 0), (.invokevirtual 239, 26, 210, 1, 4827)], 29),
  (29, [true, true, true, false], [(.istore_n 3, 29, 0, 0, 0), (.aload_n 0, 30, 0, 0, 0), (.iload_n 1, 31, 0, 0, 0), (.invokevirtual 236, 32, 209, 1, 4843), (.iload_n 2, 35, 0, 0, 0), (.iconst 2, 36, 0, 0, 0), (.iand, 37, 0, 0, 0), (.ifCond .ne 7, 38, 0, 0, 0), (.iconst 1, 41, 0, 0, 0), (.goto 4, 42, 0, 0, 0)], 45),
  (45, [true, false, false, true], [(.iconst 0, 45, 0, 0, 0)], 46),
  (46, [true, false, false, true], [(.if_icmp .ne 7, 46, 0, 0, 0), (.iload_n 3, 49, 0, 0, 0), (.goto 11, 50, 0, 0, 0)], 53),
  (53, [true, false, false, true], [(.aload_n 0, 53, 0, 0, 0), (.getfield 20, 54, 11, 10, 95), (.iconst 0, 57, 0, 0, 0), (.iaload, 58, 0, 0, 0), (.iload_n 3, 59, 0, 0, 0), (.iadd, 60, 0, 0, 0)], 61),
  (61, [false, false, false, false], [(.ireturn, 61, 0, 0, 0)], 62)]
def z_md_267 : z_Md := (false, [], (fun t => z_B_267.lookup t), 4)
set_option maxRecDepth 100000 in
theorem z_gm_267 {mt : Nat → z_Md} (h : mt 267 = z_md_267) : z_gm z_mi mt 267 := z_okB_ok (o := 14) (vp := 0) (md := (false, [], 4)) (bl := z_B_267) h (fun z => absurd rfl z) (by decide +kernel)
/-- LacedHolesModel.standsTo([III)I -/
def z_B_268 : z_Bk := [(0, [true, true, true, true, false], [(.iconst 0, 0, 0, 0, 0), (.istore 4, 1, 0, 0, 0)], 3),
  (3, [true, true, true, true, true], [(.iload 4, 3, 0, 0, 0), (.iload_n 2, 5, 0, 0, 0), (.if_icmp .ge 25, 6, 0, 0, 0), (.aload_n 0, 9, 0, 0, 0), (.getfield 97, 10, 11, 40, 125), (.iload 4, 13, 0, 0, 0), (.aload_n 0, 15, 0, 0, 0), (.aload_n 1, 16, 0, 0, 0), (.iload 4, 17, 0, 0, 0), (.iaload, 19, 0, 0, 0), (.iload_n 3, 20, 0, 0, 0), (.invokevirtual 408, 21, 267, 2, 5787), (.iastore, 24, 0, 0, 0), (.iinc 4 1, 25, 0, 0, 0), (.goto (-25), 28, 0, 0, 0)], 31),
  (31, [true, true, true, false, false], [(.aload_n 0, 31, 0, 0, 0), (.aload_n 0, 32, 0, 0, 0), (.getfield 97, 33, 11, 40, 125), (.iload_n 2, 36, 0, 0, 0), (.invokevirtual 363, 37, 247, 2, 5387), (.iconst 0, 40, 0, 0, 0), (.istore 4, 41, 0, 0, 0)], 43),
  (43, [true, true, true, false, true], [(.iload 4, 43, 0, 0, 0), (.iload_n 2, 45, 0, 0, 0), (.if_icmp .ge 43, 46, 0, 0, 0), (.aload_n 0, 49, 0, 0, 0), (.getfield 87, 50, 11, 37, 122), (.iload 4, 53, 0, 0, 0), (.iaload, 55, 0, 0, 0), (.aload_n 1, 56, 0, 0, 0), (.iload 4, 57, 0, 0, 0), (.iaload, 59, 0, 0, 0), (.if_icmp .eq 23, 60, 0, 0, 0), (.aload_n 1, 63, 0, 0, 0), (.iload 4, 64, 0, 0, 0), (.iaload, 66, 0, 0, 0), (.aload_n 0, 67, 0, 0, 0), (.getfield 87, 68, 11, 37, 122), (.iload 4, 71, 0, 0, 0), (.iaload, 73, 0, 0, 0), (.if_icmp .ge 7, 74, 0, 0, 0), (.iconst (-1), 77, 0, 0, 0), (.goto 4, 78, 0, 0, 0)], 81),
  (81, [false, false, false, false, false], [(.iconst 1, 81, 0, 0, 0)], 82),
  (82, [false, false, false, false, false], [(.ireturn, 82, 0, 0, 0)], 83),
  (83, [true, true, true, false, true], [(.iinc 4 1, 83, 0, 0, 0), (.goto (-43), 86, 0, 0, 0)], 89),
  (89, [false, false, false, false, false], [(.iconst 0, 89, 0, 0, 0), (.ireturn, 90, 0, 0, 0)], 91)]
def z_md_268 : z_Md := (false, [], (fun t => z_B_268.lookup t), 5)
set_option maxRecDepth 100000 in
theorem z_gm_268 {mt : Nat → z_Md} (h : mt 268 = z_md_268) : z_gm z_mi mt 268 := z_okB_ok (o := 14) (vp := 0) (md := (false, [], 5)) (bl := z_B_268) h (fun z => absurd rfl z) (by decide +kernel)
/-- LacedHolesModel.tries(II)V -/
def z_B_269 : z_Bk := [(0, [true, true, true, false], [(.iload_n 2, 0, 0, 0, 0), (.aload_n 0, 1, 0, 0, 0), (.getfield 324, 2, 11, 33, 118), (.if_icmp .ne 122, 5, 0, 0, 0), (.aload_n 0, 8, 0, 0, 0), (.getfield 100, 9, 11, 41, 126), (.iconst 1, 12, 0, 0, 0), (.iaload, 13, 0, 0, 0), (.aload_n 0, 14, 0, 0, 0), (.getfield 100, 15, 11, 41, 126), (.iload_n 2, 18, 0, 0, 0), (.iconst 1, 19, 0, 0, 0), (.isub, 20, 0, 0, 0), (.iaload, 21, 0, 0, 0), (.if_icmp .le 4, 22, 0, 0, 0), (.return_, 25, 0, 0, 0)], 26),
  (26, [true, false, true, false], [(.iconst 0, 26, 0, 0, 0), (.istore_n 3, 27, 0, 0, 0)], 28),
  (28, [true, false, true, true], [(.iload_n 3, 28, 0, 0, 0), (.iload_n 2, 29, 0, 0, 0), (.if_icmp .ge 59, 30, 0, 0, 0), (.aload_n 0, 33, 0, 0, 0), (.aload_n 0, 34, 0, 0, 0), (.aload_n 0, 35, 0, 0, 0), (.getfield 100, 36, 11, 41, 126), (.iload_n 3, 39, 0, 0, 0), (.iload_n 2, 40, 0, 0, 0), (.iadd, 41, 0, 0, 0), (.iconst 1, 42, 0, 0, 0), (.isub, 43, 0, 0, 0), (.iload_n 2, 44, 0, 0, 0), (.irem, 45, 0, 0, 0), (.iaload, 46, 0, 0, 0), (.aload_n 0, 47, 0, 0, 0), (.getfield 100, 48, 11, 41, 126), (.iload_n 3, 51, 0, 0, 0), (.iaload, 52, 0, 0, 0), (.invokevirtual 242, 53, 211, 2, 4859), (.aload_n 0, 56, 0, 0, 0), (.aload_n 0, 57, 0, 0, 0), (.getfield 100, 58, 11, 41, 126), (.iload_n 3, 61, 0, 0, 0), (.iaload, 62, 0, 0, 0), (.aload_n 0, 63, 0, 0, 0), (.getfield 100, 64, 11, 41, 126), (.iload_n 3, 67, 0, 0, 0), (.iconst 1, 68, 0, 0, 0), (.iadd, 69, 0, 0, 0), (.iload_n 2, 70, 0, 0, 0), (.irem, 71, 0, 0, 0), (.iaload, 72, 0, 0, 0), (.invokevirtual 242, 73, 211, 2, 4859), (.invokevirtual 302, 76, 227, 2, 5083), (.ifCond .ne 4, 79, 0, 0, 0), (.return_, 82, 0, 0, 0)], 83),
  (83, [true, false, true, true], [(.iinc 3 1, 83, 0, 0, 0), (.goto (-58), 86, 0, 0, 0)], 89),
  (89, [true, false, true, false], [(.iconst 1, 89, 0, 0, 0), (.istore_n 3, 90, 0, 0, 0)], 91),
  (91, [true, false, true, true], [(.iload_n 3, 91, 0, 0, 0), (.iconst 4, 92, 0, 0, 0), (.if_icmp .ge 23, 93, 0, 0, 0), (.aload_n 0, 96, 0, 0, 0), (.aload_n 0, 97, 0, 0, 0), (.getfield 100, 98, 11, 41, 126), (.iload_n 2, 101, 0, 0, 0), (.iload_n 3, 102, 0, 0, 0), (.invokevirtual 411, 103, 268, 3, 5771), (.ifCond .le 4, 106, 0, 0, 0), (.return_, 109, 0, 0, 0)], 110),
  (110, [true, false, true, true], [(.iinc 3 1, 110, 0, 0, 0), (.goto (-22), 113, 0, 0, 0)], 116),
  (116, [true, false, false, false], [(.aload_n 0, 116, 0, 0, 0), (.dup, 117, 0, 0, 0), (.getfield 415, 118, 11, 42, 127), (.iconst 1, 121, 0, 0, 0), (.iadd, 122, 0, 0, 0), (.putfield 415, 123, 11, 42, 127), (.return_, 126, 0, 0, 0)], 127),
  (127, [true, true, true, false], [(.iconst 1, 127, 0, 0, 0), (.istore_n 3, 128, 0, 0, 0)], 129),
  (129, [true, true, true, true], [(.iload_n 3, 129, 0, 0, 0), (.aload_n 0, 130, 0, 0, 0), (.getfield 324, 131, 11, 33, 118), (.if_icmp .ge 40, 134, 0, 0, 0), (.iload_n 1, 137, 0, 0, 0), (.iload_n 3, 138, 0, 0, 0), (.ishr, 139, 0, 0, 0), (.iconst 1, 140, 0, 0, 0), (.iand, 141, 0, 0, 0), (.iconst 1, 142, 0, 0, 0), (.if_icmp .ne 6, 143, 0, 0, 0), (.goto 22, 146, 0, 0, 0)], 149),
  (149, [true, true, true, true], [(.aload_n 0, 149, 0, 0, 0), (.getfield 100, 150, 11, 41, 126), (.iload_n 2, 153, 0, 0, 0), (.iload_n 3, 154, 0, 0, 0), (.iastore, 155, 0, 0, 0), (.aload_n 0, 156, 0, 0, 0), (.iload_n 1, 157, 0, 0, 0), (.iconst 1, 158, 0, 0, 0), (.iload_n 3, 159, 0, 0, 0), (.ishl, 160, 0, 0, 0), (.ior, 161, 0, 0, 0), (.iload_n 2, 162, 0, 0, 0), (.iconst 1, 163, 0, 0, 0), (.iadd, 164, 0, 0, 0), (.invokevirtual 418, 165, 269, 2, 5755)], 168),
  (168, [true, true, true, true], [(.iinc 3 1, 168, 0, 0, 0), (.goto (-42), 171, 0, 0, 0)], 174),
  (174, [false, false, false, false], [(.return_, 174, 0, 0, 0)], 175)]
def z_md_269 : z_Md := (false, [], (fun t => z_B_269.lookup t), 4)
set_option maxRecDepth 100000 in
theorem z_gm_269 {mt : Nat → z_Md} (h : mt 269 = z_md_269) : z_gm z_mi mt 269 := z_okB_ok (o := 14) (vp := 0) (md := (false, [], 4)) (bl := z_B_269) h (fun z => absurd rfl z) (by decide +kernel)
/-- LacedHolesModel.canTurn()Z -/
def z_B_270 : z_Bk := [(0, [true], [(.aload_n 0, 0, 0, 0, 0), (.getfield 20, 1, 11, 10, 95), (.iconst 0, 4, 0, 0, 0), (.iaload, 5, 0, 0, 0), (.aload_n 0, 6, 0, 0, 0), (.getfield 20, 7, 11, 10, 95), (.iconst 1, 10, 0, 0, 0), (.iaload, 11, 0, 0, 0), (.if_icmp .ne 17, 12, 0, 0, 0), (.aload_n 0, 15, 0, 0, 0), (.getfield 20, 16, 11, 10, 95), (.bipush 6, 19, 0, 0, 0), (.iaload, 21, 0, 0, 0), (.ifCond .ne 7, 22, 0, 0, 0), (.iconst 1, 25, 0, 0, 0), (.goto 4, 26, 0, 0, 0)], 29),
  (29, [false], [(.iconst 0, 29, 0, 0, 0)], 30),
  (30, [false], [(.ireturn, 30, 0, 0, 0)], 31)]
def z_md_270 : z_Md := (true, [], (fun t => z_B_270.lookup t), 1)
set_option maxRecDepth 100000 in
theorem z_gm_270 {mt : Nat → z_Md} (h : mt 270 = z_md_270) : z_gm z_mi mt 270 := z_okB_ok (o := 14) (vp := 0) (md := (true, [], 1)) (bl := z_B_270) h (fun z => absurd rfl z) (by decide +kernel)
/-- LacedHolesModel.alike()I -/
def z_B_271 : z_Bk := [(0, [true], [(.aload_n 0, 0, 0, 0, 0), (.iconst 0, 1, 0, 0, 0), (.putfield 112, 2, 11, 0, 85), (.aload_n 0, 5, 0, 0, 0), (.invokevirtual 421, 6, 270, 0, 5739), (.ifCond .eq 12, 9, 0, 0, 0), (.aload_n 0, 12, 0, 0, 0), (.invokevirtual 204, 13, 199, 0, 4699), (.bipush 8, 16, 0, 0, 0), (.if_icmp .le 5, 18, 0, 0, 0)], 21),
  (21, [false], [(.iconst (-1), 21, 0, 0, 0), (.ireturn, 22, 0, 0, 0)], 23),
  (23, [true], [(.aload_n 0, 23, 0, 0, 0), (.iconst 0, 24, 0, 0, 0), (.putfield 415, 25, 11, 42, 127), (.aload_n 0, 28, 0, 0, 0), (.aload_n 0, 29, 0, 0, 0), (.invokevirtual 204, 30, 199, 0, 4699), (.putfield 324, 33, 11, 33, 118), (.aload_n 0, 36, 0, 0, 0), (.getfield 100, 37, 11, 41, 126), (.iconst 0, 40, 0, 0, 0), (.iconst 0, 41, 0, 0, 0), (.iastore, 42, 0, 0, 0), (.aload_n 0, 43, 0, 0, 0), (.getfield 324, 44, 11, 33, 118), (.iconst 2, 47, 0, 0, 0), (.if_icmp .le 9, 48, 0, 0, 0), (.aload_n 0, 51, 0, 0, 0), (.iconst 1, 52, 0, 0, 0), (.iconst 1, 53, 0, 0, 0), (.invokevirtual 418, 54, 269, 2, 5755)], 57),
  (57, [true], [(.aload_n 0, 57, 0, 0, 0), (.getfield 415, 58, 11, 42, 127), (.ireturn, 61, 0, 0, 0)], 62)]
def z_md_271 : z_Md := (false, [], (fun t => z_B_271.lookup t), 1)
set_option maxRecDepth 100000 in
theorem z_gm_271 {mt : Nat → z_Md} (h : mt 271 = z_md_271) : z_gm z_mi mt 271 := z_okB_ok (o := 14) (vp := 0) (md := (false, [], 1)) (bl := z_B_271) h (fun z => absurd rfl z) (by decide +kernel)
/-- LacedHolesModel.itself()I -/
def z_B_272 : z_Bk := [(0, [true, false, false], [(.aload_n 0, 0, 0, 0, 0), (.iconst 0, 1, 0, 0, 0), (.putfield 112, 2, 11, 0, 85), (.aload_n 0, 5, 0, 0, 0), (.invokevirtual 309, 6, 230, 0, 5003), (.ifCond .eq 5, 9, 0, 0, 0), (.iconst 0, 12, 0, 0, 0), (.ireturn, 13, 0, 0, 0)], 14),
  (14, [true, false, false], [(.aload_n 0, 14, 0, 0, 0), (.invokevirtual 421, 15, 270, 0, 5739), (.ifCond .ne 5, 18, 0, 0, 0), (.iconst (-1), 21, 0, 0, 0), (.ireturn, 22, 0, 0, 0)], 23),
  (23, [true, false, false], [(.iconst 0, 23, 0, 0, 0), (.istore_n 1, 24, 0, 0, 0), (.aload_n 0, 25, 0, 0, 0), (.aload_n 0, 26, 0, 0, 0), (.getfield 26, 27, 11, 12, 97), (.aload_n 0, 30, 0, 0, 0), (.getfield 189, 31, 11, 13, 98), (.invokevirtual 363, 34, 247, 2, 5387), (.iconst 0, 37, 0, 0, 0), (.istore_n 2, 38, 0, 0, 0)], 39),
  (39, [true, true, true], [(.iload_n 2, 39, 0, 0, 0), (.aload_n 0, 40, 0, 0, 0), (.getfield 189, 41, 11, 13, 98), (.if_icmp .ge 21, 44, 0, 0, 0), (.aload_n 0, 47, 0, 0, 0), (.getfield 100, 48, 11, 41, 126), (.iload_n 2, 51, 0, 0, 0), (.aload_n 0, 52, 0, 0, 0), (.getfield 87, 53, 11, 37, 122), (.iload_n 2, 56, 0, 0, 0), (.iaload, 57, 0, 0, 0), (.iastore, 58, 0, 0, 0), (.iinc 2 1, 59, 0, 0, 0), (.goto (-23), 62, 0, 0, 0)], 65),
  (65, [true, true, false], [(.iconst 0, 65, 0, 0, 0), (.istore_n 2, 66, 0, 0, 0)], 67),
  (67, [true, true, true], [(.iload_n 2, 67, 0, 0, 0), (.iconst 4, 68, 0, 0, 0), (.if_icmp .ge 33, 69, 0, 0, 0), (.iload_n 1, 72, 0, 0, 0), (.aload_n 0, 73, 0, 0, 0), (.aload_n 0, 74, 0, 0, 0), (.getfield 100, 75, 11, 41, 126), (.aload_n 0, 78, 0, 0, 0), (.getfield 189, 79, 11, 13, 98), (.iload_n 2, 82, 0, 0, 0), (.invokevirtual 411, 83, 268, 3, 5771), (.ifCond .ne 7, 86, 0, 0, 0), (.iconst 1, 89, 0, 0, 0), (.goto 4, 90, 0, 0, 0)], 93),
  (93, [true, false, true], [(.iconst 0, 93, 0, 0, 0)], 94),
  (94, [true, false, true], [(.iadd, 94, 0, 0, 0), (.istore_n 1, 95, 0, 0, 0), (.iinc 2 1, 96, 0, 0, 0), (.goto (-32), 99, 0, 0, 0)], 102),
  (102, [false, true, false], [(.iload_n 1, 102, 0, 0, 0), (.ireturn, 103, 0, 0, 0)], 104)]
def z_md_272 : z_Md := (false, [], (fun t => z_B_272.lookup t), 3)
set_option maxRecDepth 100000 in
theorem z_gm_272 {mt : Nat → z_Md} (h : mt 272 = z_md_272) : z_gm z_mi mt 272 := z_okB_ok (o := 14) (vp := 0) (md := (false, [], 3)) (bl := z_B_272) h (fun z => absurd rfl z) (by decide +kernel)
/-- LacedHolesModel.isIn(I)Z -/
def z_B_273 : z_Bk := [(0, [true, true, false], [(.iconst 0, 0, 0, 0, 0), (.istore_n 2, 1, 0, 0, 0)], 2),
  (2, [true, true, true], [(.iload_n 2, 2, 0, 0, 0), (.aload_n 0, 3, 0, 0, 0), (.getfield 192, 4, 11, 14, 99), (.if_icmp .ge 35, 7, 0, 0, 0), (.aload_n 0, 10, 0, 0, 0), (.getfield 31, 11, 11, 18, 103), (.iload_n 2, 14, 0, 0, 0), (.aaload, 15, 0, 0, 0), (.iconst 0, 16, 0, 0, 0), (.iaload, 17, 0, 0, 0), (.iload_n 1, 18, 0, 0, 0), (.if_icmp .eq 15, 19, 0, 0, 0), (.aload_n 0, 22, 0, 0, 0), (.getfield 31, 23, 11, 18, 103), (.iload_n 2, 26, 0, 0, 0), (.aaload, 27, 0, 0, 0), (.iconst 1, 28, 0, 0, 0), (.iaload, 29, 0, 0, 0), (.iload_n 1, 30, 0, 0, 0), (.if_icmp .ne 5, 31, 0, 0, 0)], 34),
  (34, [false, false, false], [(.iconst 1, 34, 0, 0, 0), (.ireturn, 35, 0, 0, 0)], 36),
  (36, [true, true, true], [(.iinc 2 1, 36, 0, 0, 0), (.goto (-37), 39, 0, 0, 0)], 42),
  (42, [false, false, false], [(.iconst 0, 42, 0, 0, 0), (.ireturn, 43, 0, 0, 0)], 44)]
def z_md_273 : z_Md := (true, [], (fun t => z_B_273.lookup t), 3)
set_option maxRecDepth 100000 in
theorem z_gm_273 {mt : Nat → z_Md} (h : mt 273 = z_md_273) : z_gm z_mi mt 273 := z_okB_ok (o := 14) (vp := 0) (md := (true, [], 3)) (bl := z_B_273) h (fun z => absurd rfl z) (by decide +kernel)
/-- LacedHolesModel.see(II)I -/
def z_B_274 : z_Bk := [(0, [true, true, true], [(.aload_n 0, 0, 0, 0, 0), (.iconst 0, 1, 0, 0, 0), (.putfield 112, 2, 11, 0, 85), (.aload_n 0, 5, 0, 0, 0), (.iload_n 1, 6, 0, 0, 0), (.iconst 0, 7, 0, 0, 0), (.aload_n 0, 8, 0, 0, 0), (.invokevirtual 204, 9, 199, 0, 4699), (.iconst 1, 12, 0, 0, 0), (.isub, 13, 0, 0, 0), (.invokestatic 150, 14, 180, 3, 279), (.ifCond .eq 17, 17, 0, 0, 0), (.iload_n 2, 20, 0, 0, 0), (.iconst 0, 21, 0, 0, 0), (.aload_n 0, 22, 0, 0, 0), (.invokevirtual 204, 23, 199, 0, 4699), (.iconst 1, 26, 0, 0, 0), (.isub, 27, 0, 0, 0), (.invokestatic 150, 28, 180, 3, 279), (.ifCond .ne 7, 31, 0, 0, 0)], 34),
  (34, [true, true, true], [(.iconst 1, 34, 0, 0, 0), (.goto 4, 35, 0, 0, 0)], 38),
  (38, [true, true, true], [(.iconst 0, 38, 0, 0, 0)], 39),
  (39, [true, true, true], [(.iconst 1, 39, 0, 0, 0), (.invokevirtual 172, 40, 179, 2, 4491), (.ifCond .ne 21, 43, 0, 0, 0), (.aload_n 0, 46, 0, 0, 0), (.iload_n 1, 47, 0, 0, 0), (.iload_n 2, 48, 0, 0, 0), (.if_icmp .ne 7, 49, 0, 0, 0), (.iconst 1, 52, 0, 0, 0), (.goto 4, 53, 0, 0, 0)], 56),
  (56, [true, true, true], [(.iconst 0, 56, 0, 0, 0)], 57),
  (57, [true, true, true], [(.iconst 2, 57, 0, 0, 0), (.invokevirtual 172, 58, 179, 2, 4491), (.ifCond .eq 5, 61, 0, 0, 0)], 64),
  (64, [false, false, false], [(.iconst 0, 64, 0, 0, 0), (.ireturn, 65, 0, 0, 0)], 66),
  (66, [true, true, true], [(.aload_n 0, 66, 0, 0, 0), (.iload_n 1, 67, 0, 0, 0), (.invokevirtual 424, 68, 273, 1, 5835), (.ifCond .ne 50, 71, 0, 0, 0), (.aload_n 0, 74, 0, 0, 0), (.iload_n 2, 75, 0, 0, 0), (.invokevirtual 424, 76, 273, 1, 5835), (.ifCond .ne 42, 79, 0, 0, 0), (.aload_n 0, 82, 0, 0, 0), (.getfield 20, 83, 11, 10, 95), (.bipush 6, 86, 0, 0, 0), (.iaload, 88, 0, 0, 0), (.iload_n 1, 89, 0, 0, 0), (.ishr, 90, 0, 0, 0), (.iconst 1, 91, 0, 0, 0), (.iand, 92, 0, 0, 0), (.iconst 1, 93, 0, 0, 0), (.if_icmp .eq 27, 94, 0, 0, 0), (.aload_n 0, 97, 0, 0, 0), (.getfield 20, 98, 11, 10, 95), (.bipush 6, 101, 0, 0, 0), (.iaload, 103, 0, 0, 0), (.iload_n 2, 104, 0, 0, 0), (.ishr, 105, 0, 0, 0), (.iconst 1, 106, 0, 0, 0), (.iand, 107, 0, 0, 0), (.iconst 1, 108, 0, 0, 0), (.if_icmp .eq 12, 109, 0, 0, 0), (.aload_n 0, 112, 0, 0, 0), (.getfield 192, 113, 11, 14, 99), (.bipush 6, 116, 0, 0, 0), (.if_icmp .ne 5, 118, 0, 0, 0)], 121),
  (121, [false, false, false], [(.iconst (-1), 121, 0, 0, 0), (.ireturn, 122, 0, 0, 0)], 123),
  (123, [true, true, true], [(.aload_n 0, 123, 0, 0, 0), (.getfield 31, 124, 11, 18, 103), (.aload_n 0, 127, 0, 0, 0), (.getfield 192, 128, 11, 14, 99), (.aaload, 131, 0, 0, 0), (.iconst 0, 132, 0, 0, 0), (.iload_n 1, 133, 0, 0, 0), (.iastore, 134, 0, 0, 0), (.aload_n 0, 135, 0, 0, 0), (.getfield 31, 136, 11, 18, 103), (.aload_n 0, 139, 0, 0, 0), (.getfield 192, 140, 11, 14, 99), (.aaload, 143, 0, 0, 0), (.iconst 1, 144, 0, 0, 0), (.iload_n 2, 145, 0, 0, 0), (.iastore, 146, 0, 0, 0), (.aload_n 0, 147, 0, 0, 0), (.dup, 148, 0, 0, 0), (.getfield 192, 149, 11, 14, 99), (.iconst 1, 152, 0, 0, 0), (.iadd, 153, 0, 0, 0), (.putfield 192, 154, 11, 14, 99), (.aload_n 0, 157, 0, 0, 0), (.getfield 192, 158, 11, 14, 99), (.ireturn, 161, 0, 0, 0)], 162)]
def z_md_274 : z_Md := (false, [], (fun t => z_B_274.lookup t), 3)
set_option maxRecDepth 100000 in
theorem z_gm_274 {mt : Nat → z_Md} (h : mt 274 = z_md_274) : z_gm z_mi mt 274 := z_okB_ok (o := 14) (vp := 0) (md := (false, [], 3)) (bl := z_B_274) h (fun z => absurd rfl z) (by decide +kernel)
/-- LacedHolesModel.blind()I -/
def z_B_275 : z_Bk := [(0, [true, false], [(.aload_n 0, 0, 0, 0, 0), (.iconst 0, 1, 0, 0, 0), (.putfield 112, 2, 11, 0, 85), (.aload_n 0, 5, 0, 0, 0), (.getfield 192, 6, 11, 14, 99), (.istore_n 1, 9, 0, 0, 0), (.aload_n 0, 10, 0, 0, 0), (.iconst 0, 11, 0, 0, 0), (.putfield 192, 12, 11, 14, 99), (.iload_n 1, 15, 0, 0, 0), (.ireturn, 16, 0, 0, 0)], 17)]
def z_md_275 : z_Md := (false, [], (fun t => z_B_275.lookup t), 2)
set_option maxRecDepth 100000 in
theorem z_gm_275 {mt : Nat → z_Md} (h : mt 275 = z_md_275) : z_gm z_mi mt 275 := z_okB_ok (o := 14) (vp := 0) (md := (false, [], 2)) (bl := z_B_275) h (fun z => absurd rfl z) (by decide +kernel)
/-- LacedHolesModel.threads(II)V -/
def z_B_276 : z_Bk := [(0, [true, true, true, false, false], [(.iload_n 2, 0, 0, 0, 0), (.iconst 2, 1, 0, 0, 0), (.aload_n 0, 2, 0, 0, 0), (.getfield 192, 3, 11, 14, 99), (.imul, 6, 0, 0, 0), (.if_icmp .ne 126, 7, 0, 0, 0), (.iconst 0, 10, 0, 0, 0), (.istore_n 3, 11, 0, 0, 0)], 12),
  (12, [true, false, true, true, false], [(.iload_n 3, 12, 0, 0, 0), (.iload_n 2, 13, 0, 0, 0), (.if_icmp .ge 59, 14, 0, 0, 0), (.aload_n 0, 17, 0, 0, 0), (.aload_n 0, 18, 0, 0, 0), (.aload_n 0, 19, 0, 0, 0), (.getfield 100, 20, 11, 41, 126), (.iload_n 3, 23, 0, 0, 0), (.iload_n 2, 24, 0, 0, 0), (.iadd, 25, 0, 0, 0), (.iconst 1, 26, 0, 0, 0), (.isub, 27, 0, 0, 0), (.iload_n 2, 28, 0, 0, 0), (.irem, 29, 0, 0, 0), (.iaload, 30, 0, 0, 0), (.aload_n 0, 31, 0, 0, 0), (.getfield 100, 32, 11, 41, 126), (.iload_n 3, 35, 0, 0, 0), (.iaload, 36, 0, 0, 0), (.invokevirtual 242, 37, 211, 2, 4859), (.aload_n 0, 40, 0, 0, 0), (.aload_n 0, 41, 0, 0, 0), (.getfield 100, 42, 11, 41, 126), (.iload_n 3, 45, 0, 0, 0), (.iaload, 46, 0, 0, 0), (.aload_n 0, 47, 0, 0, 0), (.getfield 100, 48, 11, 41, 126), (.iload_n 3, 51, 0, 0, 0), (.iconst 1, 52, 0, 0, 0), (.iadd, 53, 0, 0, 0), (.iload_n 2, 54, 0, 0, 0), (.irem, 55, 0, 0, 0), (.iaload, 56, 0, 0, 0), (.invokevirtual 242, 57, 211, 2, 4859), (.invokevirtual 302, 60, 227, 2, 5083), (.ifCond .ne 4, 63, 0, 0, 0), (.return_, 66, 0, 0, 0)], 67),
  (67, [true, false, true, true, false], [(.iinc 3 1, 67, 0, 0, 0), (.goto (-58), 70, 0, 0, 0)], 73),
  (73, [true, false, true, false, false], [(.aload_n 0, 73, 0, 0, 0), (.aload_n 0, 74, 0, 0, 0), (.getfield 100, 75, 11, 41, 126), (.iload_n 2, 78, 0, 0, 0), (.invokevirtual 363, 79, 247, 2, 5387), (.aload_n 0, 82, 0, 0, 0), (.getfield 427, 83, 11, 43, 128), (.ifCond .eq 11, 86, 0, 0, 0), (.aload_n 0, 89, 0, 0, 0), (.iload_n 2, 90, 0, 0, 0), (.invokevirtual 430, 91, 277, 1, 5931), (.ifCond .eq 28, 94, 0, 0, 0)], 97),
  (97, [true, false, true, false, false], [(.iconst 0, 97, 0, 0, 0), (.istore_n 3, 98, 0, 0, 0)], 99),
  (99, [true, false, true, true, false], [(.iload_n 3, 99, 0, 0, 0), (.iload_n 2, 100, 0, 0, 0), (.if_icmp .ge 21, 101, 0, 0, 0), (.aload_n 0, 104, 0, 0, 0), (.getfield 84, 105, 11, 36, 121), (.iload_n 3, 108, 0, 0, 0), (.aload_n 0, 109, 0, 0, 0), (.getfield 87, 110, 11, 37, 122), (.iload_n 3, 113, 0, 0, 0), (.iaload, 114, 0, 0, 0), (.iastore, 115, 0, 0, 0), (.iinc 3 1, 116, 0, 0, 0), (.goto (-20), 119, 0, 0, 0)], 122),
  (122, [true, false, false, false, false], [(.aload_n 0, 122, 0, 0, 0), (.dup, 123, 0, 0, 0), (.getfield 427, 124, 11, 43, 128), (.iconst 1, 127, 0, 0, 0), (.iadd, 128, 0, 0, 0), (.putfield 427, 129, 11, 43, 128), (.return_, 132, 0, 0, 0)], 133),
  (133, [true, true, true, false, false], [(.iconst 0, 133, 0, 0, 0), (.istore_n 3, 134, 0, 0, 0)], 135),
  (135, [true, true, true, true, false], [(.iload_n 3, 135, 0, 0, 0), (.aload_n 0, 136, 0, 0, 0), (.getfield 192, 137, 11, 14, 99), (.if_icmp .ge 82, 140, 0, 0, 0), (.iload_n 1, 143, 0, 0, 0), (.iload_n 3, 144, 0, 0, 0), (.ishr, 145, 0, 0, 0), (.iconst 1, 146, 0, 0, 0), (.iand, 147, 0, 0, 0), (.iconst 1, 148, 0, 0, 0), (.if_icmp .ne 6, 149, 0, 0, 0), (.goto 64, 152, 0, 0, 0)], 155),
  (155, [true, true, true, true, false], [(.iconst 0, 155, 0, 0, 0), (.istore 4, 156, 0, 0, 0)], 158),
  (158, [true, true, true, true, true], [(.iload 4, 158, 0, 0, 0), (.iconst 2, 160, 0, 0, 0), (.if_icmp .ge 55, 161, 0, 0, 0), (.aload_n 0, 164, 0, 0, 0), (.getfield 100, 165, 11, 41, 126), (.iload_n 2, 168, 0, 0, 0), (.aload_n 0, 169, 0, 0, 0), (.getfield 31, 170, 11, 18, 103), (.iload_n 3, 173, 0, 0, 0), (.aaload, 174, 0, 0, 0), (.iload 4, 175, 0, 0, 0), (.iaload, 177, 0, 0, 0), (.iastore, 178, 0, 0, 0), (.aload_n 0, 179, 0, 0, 0), (.getfield 100, 180, 11, 41, 126), (.iload_n 2, 183, 0, 0, 0), (.iconst 1, 184, 0, 0, 0), (.iadd, 185, 0, 0, 0), (.aload_n 0, 186, 0, 0, 0), (.getfield 31, 187, 11, 18, 103), (.iload_n 3, 190, 0, 0, 0), (.aaload, 191, 0, 0, 0), (.iconst 1, 192, 0, 0, 0), (.iload 4, 193, 0, 0, 0), (.isub, 195, 0, 0, 0), (.iaload, 196, 0, 0, 0), (.iastore, 197, 0, 0, 0), (.aload_n 0, 198, 0, 0, 0), (.iload_n 1, 199, 0, 0, 0), (.iconst 1, 200, 0, 0, 0), (.iload_n 3, 201, 0, 0, 0), (.ishl, 202, 0, 0, 0), (.ior, 203, 0, 0, 0), (.iload_n 2, 204, 0, 0, 0), (.iconst 2, 205, 0, 0, 0), (.iadd, 206, 0, 0, 0), (.invokevirtual 433, 207, 276, 2, 5915), (.iinc 4 1, 210, 0, 0, 0), (.goto (-55), 213, 0, 0, 0)], 216),
  (216, [true, true, true, true, false], [(.iinc 3 1, 216, 0, 0, 0), (.goto (-84), 219, 0, 0, 0)], 222),
  (222, [false, false, false, false, false], [(.return_, 222, 0, 0, 0)], 223)]
def z_md_276 : z_Md := (false, [], (fun t => z_B_276.lookup t), 5)
set_option maxRecDepth 100000 in
theorem z_gm_276 {mt : Nat → z_Md} (h : mt 276 = z_md_276) : z_gm z_mi mt 276 := z_okB_ok (o := 14) (vp := 0) (md := (false, [], 5)) (bl := z_B_276) h (fun z => absurd rfl z) (by decide +kernel)
/-- LacedHolesModel.isAhead(I)Z -/
def z_B_277 : z_Bk := [(0, [true, true, false], [(.iconst 0, 0, 0, 0, 0), (.istore_n 2, 1, 0, 0, 0)], 2),
  (2, [true, true, true], [(.iload_n 2, 2, 0, 0, 0), (.iload_n 1, 3, 0, 0, 0), (.if_icmp .ge 45, 4, 0, 0, 0), (.aload_n 0, 7, 0, 0, 0), (.getfield 87, 8, 11, 37, 122), (.iload_n 2, 11, 0, 0, 0), (.iaload, 12, 0, 0, 0), (.aload_n 0, 13, 0, 0, 0), (.getfield 84, 14, 11, 36, 121), (.iload_n 2, 17, 0, 0, 0), (.iaload, 18, 0, 0, 0), (.if_icmp .eq 24, 19, 0, 0, 0), (.aload_n 0, 22, 0, 0, 0), (.getfield 87, 23, 11, 37, 122), (.iload_n 2, 26, 0, 0, 0), (.iaload, 27, 0, 0, 0), (.aload_n 0, 28, 0, 0, 0), (.getfield 84, 29, 11, 36, 121), (.iload_n 2, 32, 0, 0, 0), (.iaload, 33, 0, 0, 0), (.if_icmp .ge 7, 34, 0, 0, 0), (.iconst 1, 37, 0, 0, 0), (.goto 4, 38, 0, 0, 0)], 41),
  (41, [false, false, false], [(.iconst 0, 41, 0, 0, 0)], 42),
  (42, [false, false, false], [(.ireturn, 42, 0, 0, 0)], 43),
  (43, [true, true, true], [(.iinc 2 1, 43, 0, 0, 0), (.goto (-44), 46, 0, 0, 0)], 49),
  (49, [false, false, false], [(.iconst 0, 49, 0, 0, 0), (.ireturn, 50, 0, 0, 0)], 51)]
def z_md_277 : z_Md := (true, [], (fun t => z_B_277.lookup t), 3)
set_option maxRecDepth 100000 in
theorem z_gm_277 {mt : Nat → z_Md} (h : mt 277 = z_md_277) : z_gm z_mi mt 277 := z_okB_ok (o := 14) (vp := 0) (md := (true, [], 3)) (bl := z_B_277) h (fun z => absurd rfl z) (by decide +kernel)
/-- LacedHolesModel.findsWithin()V -/
def z_B_278 : z_Bk := [(0, [true, false, false], [(.aload_n 0, 0, 0, 0, 0), (.iconst 0, 1, 0, 0, 0), (.putfield 427, 2, 11, 43, 128), (.aload_n 0, 5, 0, 0, 0), (.getfield 192, 6, 11, 14, 99), (.iconst 2, 9, 0, 0, 0), (.if_icmp .ge 4, 10, 0, 0, 0), (.return_, 13, 0, 0, 0)], 14),
  (14, [true, false, false], [(.iconst 0, 14, 0, 0, 0), (.istore_n 1, 15, 0, 0, 0), (.iconst 1, 16, 0, 0, 0), (.istore_n 2, 17, 0, 0, 0)], 18),
  (18, [true, true, true], [(.iload_n 2, 18, 0, 0, 0), (.aload_n 0, 19, 0, 0, 0), (.getfield 192, 20, 11, 14, 99), (.if_icmp .ge 24, 23, 0, 0, 0), (.aload_n 0, 26, 0, 0, 0), (.iload_n 2, 27, 0, 0, 0), (.invokevirtual 436, 28, 279, 1, 5899), (.aload_n 0, 31, 0, 0, 0), (.iload_n 1, 32, 0, 0, 0), (.invokevirtual 436, 33, 279, 1, 5899), (.if_icmp .ge 5, 36, 0, 0, 0), (.iload_n 2, 39, 0, 0, 0), (.istore_n 1, 40, 0, 0, 0)], 41),
  (41, [true, true, true], [(.iinc 2 1, 41, 0, 0, 0), (.goto (-26), 44, 0, 0, 0)], 47),
  (47, [true, true, false], [(.aload_n 0, 47, 0, 0, 0), (.getfield 100, 48, 11, 41, 126), (.iconst 0, 51, 0, 0, 0), (.aload_n 0, 52, 0, 0, 0), (.iload_n 1, 53, 0, 0, 0), (.invokevirtual 436, 54, 279, 1, 5899), (.iastore, 57, 0, 0, 0), (.aload_n 0, 58, 0, 0, 0), (.getfield 100, 59, 11, 41, 126), (.iconst 1, 62, 0, 0, 0), (.aload_n 0, 63, 0, 0, 0), (.getfield 31, 64, 11, 18, 103), (.iload_n 1, 67, 0, 0, 0), (.aaload, 68, 0, 0, 0), (.iconst 0, 69, 0, 0, 0), (.iaload, 70, 0, 0, 0), (.aload_n 0, 71, 0, 0, 0), (.getfield 31, 72, 11, 18, 103), (.iload_n 1, 75, 0, 0, 0), (.aaload, 76, 0, 0, 0), (.iconst 1, 77, 0, 0, 0), (.iaload, 78, 0, 0, 0), (.iadd, 79, 0, 0, 0), (.aload_n 0, 80, 0, 0, 0), (.getfield 100, 81, 11, 41, 126), (.iconst 0, 84, 0, 0, 0), (.iaload, 85, 0, 0, 0), (.isub, 86, 0, 0, 0), (.iastore, 87, 0, 0, 0), (.aload_n 0, 88, 0, 0, 0), (.iconst 1, 89, 0, 0, 0), (.iload_n 1, 90, 0, 0, 0), (.ishl, 91, 0, 0, 0), (.iconst 2, 92, 0, 0, 0), (.invokevirtual 433, 93, 276, 2, 5915), (.return_, 96, 0, 0, 0)], 97)]
def z_md_278 : z_Md := (false, [], (fun t => z_B_278.lookup t), 3)
set_option maxRecDepth 100000 in
theorem z_gm_278 {mt : Nat → z_Md} (h : mt 278 = z_md_278) : z_gm z_mi mt 278 := z_okB_ok (o := 14) (vp := 0) (md := (false, [], 3)) (bl := z_B_278) h (fun z => absurd rfl z) (by decide +kernel)
/-- LacedHolesModel.lesser(I)I -/
def z_B_279 : z_Bk := [(0, [true, true], [(.aload_n 0, 0, 0, 0, 0), (.getfield 31, 1, 11, 18, 103), (.iload_n 1, 4, 0, 0, 0), (.aaload, 5, 0, 0, 0), (.iconst 0, 6, 0, 0, 0), (.iaload, 7, 0, 0, 0), (.aload_n 0, 8, 0, 0, 0), (.getfield 31, 9, 11, 18, 103), (.iload_n 1, 12, 0, 0, 0), (.aaload, 13, 0, 0, 0), (.iconst 1, 14, 0, 0, 0), (.iaload, 15, 0, 0, 0), (.if_icmp .ge 14, 16, 0, 0, 0), (.aload_n 0, 19, 0, 0, 0), (.getfield 31, 20, 11, 18, 103), (.iload_n 1, 23, 0, 0, 0), (.aaload, 24, 0, 0, 0), (.iconst 0, 25, 0, 0, 0), (.iaload, 26, 0, 0, 0), (.goto 11, 27, 0, 0, 0)], 30),
  (30, [true, true], [(.aload_n 0, 30, 0, 0, 0), (.getfield 31, 31, 11, 18, 103), (.iload_n 1, 34, 0, 0, 0), (.aaload, 35, 0, 0, 0), (.iconst 1, 36, 0, 0, 0), (.iaload, 37, 0, 0, 0)], 38),
  (38, [false, false], [(.ireturn, 38, 0, 0, 0)], 39)]
def z_md_279 : z_Md := (false, [], (fun t => z_B_279.lookup t), 2)
set_option maxRecDepth 100000 in
theorem z_gm_279 {mt : Nat → z_Md} (h : mt 279 = z_md_279) : z_gm z_mi mt 279 := z_okB_ok (o := 14) (vp := 0) (md := (false, [], 2)) (bl := z_B_279) h (fun z => absurd rfl z) (by decide +kernel)
/-- LacedHolesModel.within()I -/
def z_B_280 : z_Bk := [(0, [true], [(.aload_n 0, 0, 0, 0, 0), (.iconst 0, 1, 0, 0, 0), (.putfield 112, 2, 11, 0, 85), (.aload_n 0, 5, 0, 0, 0), (.invokevirtual 439, 6, 278, 0, 5883), (.aload_n 0, 9, 0, 0, 0), (.getfield 427, 10, 11, 43, 128), (.ireturn, 13, 0, 0, 0)], 14)]
def z_md_280 : z_Md := (false, [], (fun t => z_B_280.lookup t), 1)
set_option maxRecDepth 100000 in
theorem z_gm_280 {mt : Nat → z_Md} (h : mt 280 = z_md_280) : z_gm z_mi mt 280 := z_okB_ok (o := 14) (vp := 0) (md := (false, [], 1)) (bl := z_B_280) h (fun z => absurd rfl z) (by decide +kernel)
/-- LacedHolesModel.guess()I -/
def z_B_281 : z_Bk := [(0, [true], [(.aload_n 0, 0, 0, 0, 0), (.iconst 0, 1, 0, 0, 0), (.putfield 112, 2, 11, 0, 85), (.aload_n 0, 5, 0, 0, 0), (.invokevirtual 439, 6, 278, 0, 5883), (.aload_n 0, 9, 0, 0, 0), (.getfield 427, 10, 11, 43, 128), (.ifCond .ne 5, 13, 0, 0, 0), (.iconst (-1), 16, 0, 0, 0), (.ireturn, 17, 0, 0, 0)], 18),
  (18, [true], [(.aload_n 0, 18, 0, 0, 0), (.aload_n 0, 19, 0, 0, 0), (.getfield 84, 20, 11, 36, 121), (.iconst 2, 23, 0, 0, 0), (.aload_n 0, 24, 0, 0, 0), (.getfield 192, 25, 11, 14, 99), (.imul, 28, 0, 0, 0), (.invokevirtual 207, 29, 196, 2, 4747), (.aload_n 0, 32, 0, 0, 0), (.getfield 189, 33, 11, 13, 98), (.ireturn, 36, 0, 0, 0)], 37)]
def z_md_281 : z_Md := (false, [], (fun t => z_B_281.lookup t), 1)
set_option maxRecDepth 100000 in
theorem z_gm_281 {mt : Nat → z_Md} (h : mt 281 = z_md_281) : z_gm z_mi mt 281 := z_okB_ok (o := 14) (vp := 0) (md := (false, [], 1)) (bl := z_B_281) h (fun z => absurd rfl z) (by decide +kernel)
/-- LacedHolesModel.isPair(II)Z -/
def z_B_282 : z_Bk := [(0, [true, true, true, false], [(.iconst 0, 0, 0, 0, 0), (.istore_n 3, 1, 0, 0, 0)], 2),
  (2, [true, true, true, true], [(.iload_n 3, 2, 0, 0, 0), (.aload_n 0, 3, 0, 0, 0), (.getfield 192, 4, 11, 14, 99), (.if_icmp .ge 59, 7, 0, 0, 0), (.aload_n 0, 10, 0, 0, 0), (.getfield 31, 11, 11, 18, 103), (.iload_n 3, 14, 0, 0, 0), (.aaload, 15, 0, 0, 0), (.iconst 0, 16, 0, 0, 0), (.iaload, 17, 0, 0, 0), (.iload_n 1, 18, 0, 0, 0), (.if_icmp .ne 15, 19, 0, 0, 0), (.aload_n 0, 22, 0, 0, 0), (.getfield 31, 23, 11, 18, 103), (.iload_n 3, 26, 0, 0, 0), (.aaload, 27, 0, 0, 0), (.iconst 1, 28, 0, 0, 0), (.iaload, 29, 0, 0, 0), (.iload_n 2, 30, 0, 0, 0), (.if_icmp .eq 27, 31, 0, 0, 0)], 34),
  (34, [true, true, true, true], [(.aload_n 0, 34, 0, 0, 0), (.getfield 31, 35, 11, 18, 103), (.iload_n 3, 38, 0, 0, 0), (.aaload, 39, 0, 0, 0), (.iconst 0, 40, 0, 0, 0), (.iaload, 41, 0, 0, 0), (.iload_n 2, 42, 0, 0, 0), (.if_icmp .ne 17, 43, 0, 0, 0), (.aload_n 0, 46, 0, 0, 0), (.getfield 31, 47, 11, 18, 103), (.iload_n 3, 50, 0, 0, 0), (.aaload, 51, 0, 0, 0), (.iconst 1, 52, 0, 0, 0), (.iaload, 53, 0, 0, 0), (.iload_n 1, 54, 0, 0, 0), (.if_icmp .ne 5, 55, 0, 0, 0)], 58),
  (58, [false, false, false, false], [(.iconst 1, 58, 0, 0, 0), (.ireturn, 59, 0, 0, 0)], 60),
  (60, [true, true, true, true], [(.iinc 3 1, 60, 0, 0, 0), (.goto (-61), 63, 0, 0, 0)], 66),
  (66, [false, false, false, false], [(.iconst 0, 66, 0, 0, 0), (.ireturn, 67, 0, 0, 0)], 68)]
def z_md_282 : z_Md := (true, [], (fun t => z_B_282.lookup t), 4)
set_option maxRecDepth 100000 in
theorem z_gm_282 {mt : Nat → z_Md} (h : mt 282 = z_md_282) : z_gm z_mi mt 282 := z_okB_ok (o := 14) (vp := 0) (md := (true, [], 4)) (bl := z_B_282) h (fun z => absurd rfl z) (by decide +kernel)
/-- LacedHolesModel.seen()I -/
def z_B_283 : z_Bk := [(0, [true, false, false, false], [(.aload_n 0, 0, 0, 0, 0), (.iconst 0, 1, 0, 0, 0), (.putfield 112, 2, 11, 0, 85), (.aload_n 0, 5, 0, 0, 0), (.invokevirtual 309, 6, 230, 0, 5003), (.ifCond .eq 5, 9, 0, 0, 0), (.iconst 0, 12, 0, 0, 0), (.ireturn, 13, 0, 0, 0)], 14),
  (14, [true, false, false, false], [(.aload_n 0, 14, 0, 0, 0), (.getfield 189, 15, 11, 13, 98), (.iconst 2, 18, 0, 0, 0), (.irem, 19, 0, 0, 0), (.iconst 1, 20, 0, 0, 0), (.if_icmp .eq 16, 21, 0, 0, 0), (.aload_n 0, 24, 0, 0, 0), (.getfield 189, 25, 11, 13, 98), (.iconst 2, 28, 0, 0, 0), (.aload_n 0, 29, 0, 0, 0), (.getfield 192, 30, 11, 14, 99), (.imul, 33, 0, 0, 0), (.if_icmp .eq 5, 34, 0, 0, 0)], 37),
  (37, [false, false, false, false], [(.iconst 0, 37, 0, 0, 0), (.ireturn, 38, 0, 0, 0)], 39),
  (39, [true, false, false, false], [(.iconst 0, 39, 0, 0, 0), (.istore_n 1, 40, 0, 0, 0)], 41),
  (41, [true, true, false, false], [(.iload_n 1, 41, 0, 0, 0), (.iconst 2, 42, 0, 0, 0), (.if_icmp .ge 63, 43, 0, 0, 0), (.iconst 1, 46, 0, 0, 0), (.istore_n 2, 47, 0, 0, 0), (.iload_n 1, 48, 0, 0, 0), (.istore_n 3, 49, 0, 0, 0)], 50),
  (50, [true, true, true, true], [(.iload_n 3, 50, 0, 0, 0), (.aload_n 0, 51, 0, 0, 0), (.getfield 189, 52, 11, 13, 98), (.if_icmp .ge 37, 55, 0, 0, 0), (.iload_n 2, 58, 0, 0, 0), (.ifCond .eq 25, 59, 0, 0, 0), (.aload_n 0, 62, 0, 0, 0), (.aload_n 0, 63, 0, 0, 0), (.getfield 26, 64, 11, 12, 97), (.iload_n 3, 67, 0, 0, 0), (.iaload, 68, 0, 0, 0), (.aload_n 0, 69, 0, 0, 0), (.iload_n 3, 70, 0, 0, 0), (.invokevirtual 299, 71, 225, 1, 5067), (.invokevirtual 442, 74, 282, 2, 5979), (.ifCond .eq 7, 77, 0, 0, 0), (.iconst 1, 80, 0, 0, 0), (.goto 4, 81, 0, 0, 0)], 84),
  (84, [true, true, false, true], [(.iconst 0, 84, 0, 0, 0)], 85),
  (85, [true, true, false, true], [(.istore_n 2, 85, 0, 0, 0), (.iinc 3 2, 86, 0, 0, 0), (.goto (-39), 89, 0, 0, 0)], 92),
  (92, [true, true, true, false], [(.iload_n 2, 92, 0, 0, 0), (.ifCond .eq 7, 93, 0, 0, 0), (.iload_n 1, 96, 0, 0, 0), (.iconst 1, 97, 0, 0, 0), (.iadd, 98, 0, 0, 0), (.ireturn, 99, 0, 0, 0)], 100),
  (100, [true, true, false, false], [(.iinc 1 1, 100, 0, 0, 0), (.goto (-62), 103, 0, 0, 0)], 106),
  (106, [false, false, false, false], [(.iconst 0, 106, 0, 0, 0), (.ireturn, 107, 0, 0, 0)], 108)]
def z_md_283 : z_Md := (false, [], (fun t => z_B_283.lookup t), 4)
set_option maxRecDepth 100000 in
theorem z_gm_283 {mt : Nat → z_Md} (h : mt 283 = z_md_283) : z_gm z_mi mt 283 := z_okB_ok (o := 14) (vp := 0) (md := (false, [], 4)) (bl := z_B_283) h (fun z => absurd rfl z) (by decide +kernel)
/-- LacedHolesModel.twice(JIJ)I -/
def z_B_284 : z_Bk := [(0, [true, true, false, true, true, false, false], [(.aload_n 0, 0, 0, 0, 0), (.getfield 68, 1, 11, 30, 115), (.iconst 0, 4, 0, 0, 0), (.iconst 2, 5, 0, 0, 0), (.lload_n 1, 6, 0, 0, 0), (.invokestatic 266, 7, 213, 1, 307), (.imul, 10, 0, 0, 0), (.iload_n 3, 11, 0, 0, 0), (.iadd, 12, 0, 0, 0), (.lload 4, 13, 0, 0, 0), (.invokestatic 266, 15, 213, 1, 307), (.isub, 18, 0, 0, 0), (.iastore, 19, 0, 0, 0), (.iconst 1, 20, 0, 0, 0), (.istore 6, 21, 0, 0, 0)], 23),
  (23, [true, true, false, false, true, false, true], [(.iload 6, 23, 0, 0, 0), (.iconst 5, 25, 0, 0, 0), (.if_icmp .gt 32, 26, 0, 0, 0), (.aload_n 0, 29, 0, 0, 0), (.getfield 68, 30, 11, 30, 115), (.iload 6, 33, 0, 0, 0), (.iconst 2, 35, 0, 0, 0), (.lload_n 1, 36, 0, 0, 0), (.iload 6, 37, 0, 0, 0), (.invokestatic 262, 39, 214, 2, 306), (.imul, 42, 0, 0, 0), (.lload 4, 43, 0, 0, 0), (.iload 6, 45, 0, 0, 0), (.invokestatic 262, 47, 214, 2, 306), (.isub, 50, 0, 0, 0), (.iastore, 51, 0, 0, 0), (.iinc 6 1, 52, 0, 0, 0), (.goto (-32), 55, 0, 0, 0)], 58),
  (58, [true, false, false, false, false, false, false], [(.aload_n 0, 58, 0, 0, 0), (.iconst 0, 59, 0, 0, 0), (.invokevirtual 270, 60, 217, 1, 5147), (.ireturn, 63, 0, 0, 0)], 64)]
def z_md_284 : z_Md := (false, [], (fun t => z_B_284.lookup t), 7)
set_option maxRecDepth 100000 in
theorem z_gm_284 {mt : Nat → z_Md} (h : mt 284 = z_md_284) : z_gm z_mi mt 284 := z_okB_ok (o := 14) (vp := 0) (md := (false, [], 7)) (bl := z_B_284) h (fun z => absurd rfl z) (by decide +kernel)
/-- LacedHolesModel.knot(II)I -/
def z_B_285 : z_Bk := [(0, [true, true, true, false, false, false, false, false, false], [(.aload_n 0, 0, 0, 0, 0), (.iconst 0, 1, 0, 0, 0), (.putfield 112, 2, 11, 0, 85), (.aload_n 0, 5, 0, 0, 0), (.invokevirtual 309, 6, 230, 0, 5003), (.ifCond .ne 36, 9, 0, 0, 0), (.aload_n 0, 12, 0, 0, 0), (.iload_n 1, 13, 0, 0, 0), (.iconst 0, 14, 0, 0, 0), (.sipush 999, 15, 0, 0, 0), (.invokestatic 150, 18, 180, 3, 279), (.ifCond .eq 12, 21, 0, 0, 0), (.iload_n 2, 24, 0, 0, 0), (.iconst 0, 25, 0, 0, 0), (.iconst 1, 26, 0, 0, 0), (.invokestatic 150, 27, 180, 3, 279), (.ifCond .ne 7, 30, 0, 0, 0)], 33),
  (33, [true, true, true, false, false, false, false, false, false], [(.iconst 1, 33, 0, 0, 0), (.goto 4, 34, 0, 0, 0)], 37),
  (37, [true, true, true, false, false, false, false, false, false], [(.iconst 0, 37, 0, 0, 0)], 38),
  (38, [true, true, true, false, false, false, false, false, false], [(.iconst 2, 38, 0, 0, 0), (.invokevirtual 172, 39, 179, 2, 4491), (.ifCond .eq 5, 42, 0, 0, 0)], 45),
  (45, [false, false, false, false, false, false, false, false, false], [(.iconst 0, 45, 0, 0, 0), (.ireturn, 46, 0, 0, 0)], 47),
  (47, [true, true, true, false, false, false, false, false, false], [(.aload_n 0, 47, 0, 0, 0), (.invokevirtual 316, 48, 232, 0, 5115), (.lstore_n 3, 51, 0, 0, 0), (.lconst 0, 52, 0, 0, 0), (.lstore 5, 53, 0, 0, 0), (.iconst (-1), 55, 0, 0, 0), (.istore 7, 56, 0, 0, 0), (.iconst 0, 58, 0, 0, 0), (.istore 8, 59, 0, 0, 0)], 61),
  (61, [true, true, true, true, false, true, false, true, true], [(.iload 8, 61, 0, 0, 0), (.aload_n 0, 63, 0, 0, 0), (.getfield 189, 64, 11, 13, 98), (.if_icmp .ge 69, 67, 0, 0, 0), (.aload_n 0, 70, 0, 0, 0), (.lload 5, 71, 0, 0, 0), (.bipush (-2), 73, 0, 0, 0), (.iload_n 1, 75, 0, 0, 0), (.imul, 76, 0, 0, 0), (.lload_n 3, 77, 0, 0, 0), (.invokevirtual 445, 78, 284, 3, 6011), (.ifCond .gt 7, 81, 0, 0, 0), (.iload 8, 84, 0, 0, 0), (.istore 7, 86, 0, 0, 0)], 88),
  (88, [true, true, true, true, false, true, false, true, true], [(.lload 5, 88, 0, 0, 0), (.aload_n 0, 90, 0, 0, 0), (.aload_n 0, 91, 0, 0, 0), (.getfield 26, 92, 11, 12, 97), (.iload 8, 95, 0, 0, 0), (.iaload, 97, 0, 0, 0), (.aload_n 0, 98, 0, 0, 0), (.iload 8, 99, 0, 0, 0), (.invokevirtual 299, 101, 225, 1, 5067), (.invokevirtual 288, 104, 212, 2, 4811), (.ladd, 107, 0, 0, 0), (.lstore 5, 108, 0, 0, 0), (.iload_n 2, 110, 0, 0, 0), (.ifCond .ne 19, 111, 0, 0, 0), (.aload_n 0, 114, 0, 0, 0), (.lload 5, 115, 0, 0, 0), (.iconst 2, 117, 0, 0, 0), (.iload_n 1, 118, 0, 0, 0), (.imul, 119, 0, 0, 0), (.lload_n 3, 120, 0, 0, 0), (.invokevirtual 445, 121, 284, 3, 6011), (.ifCond .lt 6, 124, 0, 0, 0), (.iload 8, 127, 0, 0, 0), (.ireturn, 129, 0, 0, 0)], 130),
  (130, [true, true, true, true, false, true, false, true, true], [(.iinc 8 1, 130, 0, 0, 0), (.goto (-72), 133, 0, 0, 0)], 136),
  (136, [false, false, false, false, false, false, false, true, false], [(.iload 7, 136, 0, 0, 0), (.ireturn, 138, 0, 0, 0)], 139)]
def z_md_285 : z_Md := (false, [], (fun t => z_B_285.lookup t), 9)
set_option maxRecDepth 100000 in
theorem z_gm_285 {mt : Nat → z_Md} (h : mt 285 = z_md_285) : z_gm z_mi mt 285 := z_okB_ok (o := 14) (vp := 0) (md := (false, [], 9)) (bl := z_B_285) h (fun z => absurd rfl z) (by decide +kernel)
/-- LacedHolesModel.wearOf([III)I -/
def z_B_286 : z_Bk := [(0, [true, true, true, true, false], [(.iconst 0, 0, 0, 0, 0), (.istore 4, 1, 0, 0, 0)], 3),
  (3, [true, true, true, true, true], [(.iload 4, 3, 0, 0, 0), (.iload_n 2, 5, 0, 0, 0), (.if_icmp .ge 65, 6, 0, 0, 0), (.aload_n 1, 9, 0, 0, 0), (.iload 4, 10, 0, 0, 0), (.iaload, 12, 0, 0, 0), (.iload_n 3, 13, 0, 0, 0), (.if_icmp .ne 51, 14, 0, 0, 0), (.iconst 1, 17, 0, 0, 0), (.aload_n 0, 18, 0, 0, 0), (.aload_n 1, 19, 0, 0, 0), (.iload 4, 20, 0, 0, 0), (.iload_n 2, 22, 0, 0, 0), (.iadd, 23, 0, 0, 0), (.iconst 1, 24, 0, 0, 0), (.isub, 25, 0, 0, 0), (.iload_n 2, 26, 0, 0, 0), (.irem, 27, 0, 0, 0), (.iaload, 28, 0, 0, 0), (.iload_n 3, 29, 0, 0, 0), (.invokevirtual 242, 30, 211, 2, 4859), (.ifCond .eq 7, 33, 0, 0, 0), (.iconst 0, 36, 0, 0, 0), (.goto 4, 37, 0, 0, 0)], 40),
  (40, [true, true, true, true, true], [(.iconst 1, 40, 0, 0, 0)], 41),
  (41, [true, true, true, true, true], [(.iadd, 41, 0, 0, 0), (.aload_n 0, 42, 0, 0, 0), (.iload_n 3, 43, 0, 0, 0), (.aload_n 1, 44, 0, 0, 0), (.iload 4, 45, 0, 0, 0), (.iconst 1, 47, 0, 0, 0), (.iadd, 48, 0, 0, 0), (.iload_n 2, 49, 0, 0, 0), (.irem, 50, 0, 0, 0), (.iaload, 51, 0, 0, 0), (.invokevirtual 242, 52, 211, 2, 4859), (.ifCond .eq 7, 55, 0, 0, 0), (.iconst 0, 58, 0, 0, 0), (.goto 4, 59, 0, 0, 0)], 62),
  (62, [false, false, false, false, false], [(.iconst 1, 62, 0, 0, 0)], 63),
  (63, [false, false, false, false, false], [(.iadd, 63, 0, 0, 0), (.ireturn, 64, 0, 0, 0)], 65),
  (65, [true, true, true, true, true], [(.iinc 4 1, 65, 0, 0, 0), (.goto (-65), 68, 0, 0, 0)], 71),
  (71, [false, false, false, false, false], [(.iconst 0, 71, 0, 0, 0), (.ireturn, 72, 0, 0, 0)], 73)]
def z_md_286 : z_Md := (false, [], (fun t => z_B_286.lookup t), 5)
set_option maxRecDepth 100000 in
theorem z_gm_286 {mt : Nat → z_Md} (h : mt 286 = z_md_286) : z_gm z_mi mt 286 := z_okB_ok (o := 14) (vp := 0) (md := (false, [], 5)) (bl := z_B_286) h (fun z => absurd rfl z) (by decide +kernel)
/-- LacedHolesModel.wear(I)I -/
def z_B_287 : z_Bk := [(0, [true, true], [(.aload_n 0, 0, 0, 0, 0), (.iconst 0, 1, 0, 0, 0), (.putfield 112, 2, 11, 0, 85), (.aload_n 0, 5, 0, 0, 0), (.iload_n 1, 6, 0, 0, 0), (.iconst 0, 7, 0, 0, 0), (.aload_n 0, 8, 0, 0, 0), (.invokevirtual 204, 9, 199, 0, 4699), (.iconst 1, 12, 0, 0, 0), (.isub, 13, 0, 0, 0), (.invokestatic 150, 14, 180, 3, 279), (.ifCond .ne 7, 17, 0, 0, 0), (.iconst 1, 20, 0, 0, 0), (.goto 4, 21, 0, 0, 0)], 24),
  (24, [true, true], [(.iconst 0, 24, 0, 0, 0)], 25),
  (25, [true, true], [(.iconst 1, 25, 0, 0, 0), (.invokevirtual 172, 26, 179, 2, 4491), (.ifCond .ne 23, 29, 0, 0, 0), (.aload_n 0, 32, 0, 0, 0), (.aload_n 0, 33, 0, 0, 0), (.getfield 189, 34, 11, 13, 98), (.ifCond .ne 7, 37, 0, 0, 0), (.iconst 1, 40, 0, 0, 0), (.goto 4, 41, 0, 0, 0)], 44),
  (44, [true, true], [(.iconst 0, 44, 0, 0, 0)], 45),
  (45, [true, true], [(.iconst 2, 45, 0, 0, 0), (.invokevirtual 172, 46, 179, 2, 4491), (.ifCond .eq 5, 49, 0, 0, 0)], 52),
  (52, [false, false], [(.iconst 0, 52, 0, 0, 0), (.ireturn, 53, 0, 0, 0)], 54),
  (54, [true, true], [(.aload_n 0, 54, 0, 0, 0), (.aload_n 0, 55, 0, 0, 0), (.getfield 26, 56, 11, 12, 97), (.aload_n 0, 59, 0, 0, 0), (.getfield 189, 60, 11, 13, 98), (.iload_n 1, 63, 0, 0, 0), (.invokevirtual 449, 64, 286, 3, 6043), (.ireturn, 67, 0, 0, 0)], 68)]
def z_md_287 : z_Md := (false, [], (fun t => z_B_287.lookup t), 2)
set_option maxRecDepth 100000 in
theorem z_gm_287 {mt : Nat → z_Md} (h : mt 287 = z_md_287) : z_gm z_mi mt 287 := z_okB_ok (o := 14) (vp := 0) (md := (false, [], 2)) (bl := z_B_287) h (fun z => absurd rfl z) (by decide +kernel)
/-- LacedHolesModel.keep()I -/
def z_B_288 : z_Bk := [(0, [true, false], [(.aload_n 0, 0, 0, 0, 0), (.iconst 0, 1, 0, 0, 0), (.putfield 112, 2, 11, 0, 85), (.aload_n 0, 5, 0, 0, 0), (.invokevirtual 309, 6, 230, 0, 5003), (.ifCond .eq 5, 9, 0, 0, 0), (.iconst 0, 12, 0, 0, 0), (.ireturn, 13, 0, 0, 0)], 14),
  (14, [true, false], [(.aload_n 0, 14, 0, 0, 0), (.getfield 195, 15, 11, 15, 100), (.iconst 4, 18, 0, 0, 0), (.if_icmp .ne 5, 19, 0, 0, 0), (.iconst (-1), 22, 0, 0, 0), (.ireturn, 23, 0, 0, 0)], 24),
  (24, [true, false], [(.iconst 0, 24, 0, 0, 0), (.istore_n 1, 25, 0, 0, 0)], 26),
  (26, [true, true], [(.iload_n 1, 26, 0, 0, 0), (.aload_n 0, 27, 0, 0, 0), (.getfield 189, 28, 11, 13, 98), (.if_icmp .ge 26, 31, 0, 0, 0), (.aload_n 0, 34, 0, 0, 0), (.getfield 34, 35, 11, 19, 104), (.aload_n 0, 38, 0, 0, 0), (.getfield 195, 39, 11, 15, 100), (.aaload, 42, 0, 0, 0), (.iload_n 1, 43, 0, 0, 0), (.aload_n 0, 44, 0, 0, 0), (.getfield 26, 45, 11, 12, 97), (.iload_n 1, 48, 0, 0, 0), (.iaload, 49, 0, 0, 0), (.iastore, 50, 0, 0, 0), (.iinc 1 1, 51, 0, 0, 0), (.goto (-28), 54, 0, 0, 0)], 57),
  (57, [true, false], [(.aload_n 0, 57, 0, 0, 0), (.getfield 34, 58, 11, 19, 104), (.aload_n 0, 61, 0, 0, 0), (.getfield 195, 62, 11, 15, 100), (.aaload, 65, 0, 0, 0), (.bipush 12, 66, 0, 0, 0), (.aload_n 0, 68, 0, 0, 0), (.getfield 189, 69, 11, 13, 98), (.iastore, 72, 0, 0, 0), (.aload_n 0, 73, 0, 0, 0), (.dup, 74, 0, 0, 0), (.getfield 195, 75, 11, 15, 100), (.iconst 1, 78, 0, 0, 0), (.iadd, 79, 0, 0, 0), (.putfield 195, 80, 11, 15, 100), (.aload_n 0, 83, 0, 0, 0), (.getfield 195, 84, 11, 15, 100), (.ireturn, 87, 0, 0, 0)], 88)]
def z_md_288 : z_Md := (false, [], (fun t => z_B_288.lookup t), 2)
set_option maxRecDepth 100000 in
theorem z_gm_288 {mt : Nat → z_Md} (h : mt 288 = z_md_288) : z_gm z_mi mt 288 := z_okB_ok (o := 14) (vp := 0) (md := (false, [], 2)) (bl := z_B_288) h (fun z => absurd rfl z) (by decide +kernel)
/-- LacedHolesModel.drop()I -/
def z_B_289 : z_Bk := [(0, [true, false], [(.aload_n 0, 0, 0, 0, 0), (.iconst 0, 1, 0, 0, 0), (.putfield 112, 2, 11, 0, 85), (.aload_n 0, 5, 0, 0, 0), (.getfield 195, 6, 11, 15, 100), (.istore_n 1, 9, 0, 0, 0), (.aload_n 0, 10, 0, 0, 0), (.iconst 0, 11, 0, 0, 0), (.putfield 195, 12, 11, 15, 100), (.iload_n 1, 15, 0, 0, 0), (.ireturn, 16, 0, 0, 0)], 17)]
def z_md_289 : z_Md := (false, [], (fun t => z_B_289.lookup t), 2)
set_option maxRecDepth 100000 in
theorem z_gm_289 {mt : Nat → z_Md} (h : mt 289 = z_md_289) : z_gm z_mi mt 289 := z_okB_ok (o := 14) (vp := 0) (md := (false, [], 2)) (bl := z_B_289) h (fun z => absurd rfl z) (by decide +kernel)
/-- LacedHolesModel.shares(II)V -/
def z_B_290 : z_Bk := [(0, [true, true, true, false, false, false, false, false], [(.iload_n 1, 0, 0, 0, 0), (.aload_n 0, 1, 0, 0, 0), (.getfield 195, 2, 11, 15, 100), (.iconst 1, 5, 0, 0, 0), (.isub, 6, 0, 0, 0), (.if_icmp .ne 165, 7, 0, 0, 0), (.aload_n 0, 10, 0, 0, 0), (.getfield 103, 11, 11, 44, 129), (.iload_n 1, 14, 0, 0, 0), (.iload_n 2, 15, 0, 0, 0), (.iastore, 16, 0, 0, 0), (.iconst 0, 17, 0, 0, 0), (.istore_n 3, 18, 0, 0, 0), (.iconst 0, 19, 0, 0, 0), (.istore 4, 20, 0, 0, 0), (.iconst 0, 22, 0, 0, 0), (.istore 5, 23, 0, 0, 0)], 25),
  (25, [true, false, false, true, true, true, false, false], [(.iload 5, 25, 0, 0, 0), (.aload_n 0, 27, 0, 0, 0), (.invokevirtual 204, 28, 199, 0, 4699), (.if_icmp .ge 79, 31, 0, 0, 0), (.iconst 0, 34, 0, 0, 0), (.istore 6, 35, 0, 0, 0), (.iconst 0, 37, 0, 0, 0), (.istore 7, 38, 0, 0, 0)], 40),
  (40, [true, false, false, true, true, true, true, true], [(.iload 7, 40, 0, 0, 0), (.aload_n 0, 42, 0, 0, 0), (.getfield 195, 43, 11, 15, 100), (.if_icmp .ge 45, 46, 0, 0, 0), (.iload 6, 49, 0, 0, 0), (.aload_n 0, 51, 0, 0, 0), (.getfield 103, 52, 11, 44, 129), (.iload 7, 55, 0, 0, 0), (.iaload, 57, 0, 0, 0), (.aload_n 0, 58, 0, 0, 0), (.aload_n 0, 59, 0, 0, 0), (.getfield 34, 60, 11, 19, 104), (.iload 7, 63, 0, 0, 0), (.aaload, 65, 0, 0, 0), (.aload_n 0, 66, 0, 0, 0), (.getfield 34, 67, 11, 19, 104), (.iload 7, 70, 0, 0, 0), (.aaload, 72, 0, 0, 0), (.bipush 12, 73, 0, 0, 0), (.iaload, 75, 0, 0, 0), (.iload 5, 76, 0, 0, 0), (.invokevirtual 449, 78, 286, 3, 6043), (.imul, 81, 0, 0, 0), (.iadd, 82, 0, 0, 0), (.istore 6, 83, 0, 0, 0), (.iinc 7 1, 85, 0, 0, 0), (.goto (-48), 88, 0, 0, 0)], 91),
  (91, [true, false, false, true, true, true, true, false], [(.iload 6, 91, 0, 0, 0), (.iload_n 3, 93, 0, 0, 0), (.if_icmp .le 8, 94, 0, 0, 0), (.iload 6, 97, 0, 0, 0), (.goto 4, 99, 0, 0, 0)], 102),
  (102, [true, false, false, true, true, true, false, false], [(.iload_n 3, 102, 0, 0, 0)], 103),
  (103, [true, false, false, false, true, true, false, false], [(.istore_n 3, 103, 0, 0, 0), (.iinc 5 1, 104, 0, 0, 0), (.goto (-82), 107, 0, 0, 0)], 110),
  (110, [true, false, false, true, true, false, false, false], [(.iconst 0, 110, 0, 0, 0), (.istore 5, 111, 0, 0, 0)], 113),
  (113, [true, false, false, true, true, true, false, false], [(.iload 5, 113, 0, 0, 0), (.aload_n 0, 115, 0, 0, 0), (.getfield 195, 116, 11, 15, 100), (.if_icmp .ge 24, 119, 0, 0, 0), (.bipush 100, 122, 0, 0, 0), (.iload 4, 124, 0, 0, 0), (.imul, 126, 0, 0, 0), (.aload_n 0, 127, 0, 0, 0), (.getfield 103, 128, 11, 44, 129), (.iload 5, 131, 0, 0, 0), (.iaload, 133, 0, 0, 0), (.iadd, 134, 0, 0, 0), (.istore 4, 135, 0, 0, 0), (.iinc 5 1, 137, 0, 0, 0), (.goto (-27), 140, 0, 0, 0)], 143),
  (143, [true, false, false, true, true, false, false, false], [(.aload_n 0, 143, 0, 0, 0), (.getfield 452, 144, 11, 45, 130), (.iconst (-1), 147, 0, 0, 0), (.if_icmp .eq 12, 148, 0, 0, 0), (.iload_n 3, 151, 0, 0, 0), (.aload_n 0, 152, 0, 0, 0), (.getfield 452, 153, 11, 45, 130), (.if_icmp .lt 4, 156, 0, 0, 0), (.return_, 159, 0, 0, 0)], 160),
  (160, [true, false, false, true, true, false, false, false], [(.aload_n 0, 160, 0, 0, 0), (.iload_n 3, 161, 0, 0, 0), (.putfield 452, 162, 11, 45, 130), (.aload_n 0, 165, 0, 0, 0), (.iload 4, 166, 0, 0, 0), (.putfield 455, 168, 11, 46, 131), (.return_, 171, 0, 0, 0)], 172),
  (172, [true, true, true, false, false, false, false, false], [(.iconst 0, 172, 0, 0, 0), (.istore_n 3, 173, 0, 0, 0)], 174),
  (174, [true, true, true, true, false, false, false, false], [(.iload_n 3, 174, 0, 0, 0), (.iload_n 2, 175, 0, 0, 0), (.if_icmp .gt 26, 176, 0, 0, 0), (.aload_n 0, 179, 0, 0, 0), (.getfield 103, 180, 11, 44, 129), (.iload_n 1, 183, 0, 0, 0), (.iload_n 3, 184, 0, 0, 0), (.iastore, 185, 0, 0, 0), (.aload_n 0, 186, 0, 0, 0), (.iload_n 1, 187, 0, 0, 0), (.iconst 1, 188, 0, 0, 0), (.iadd, 189, 0, 0, 0), (.iload_n 2, 190, 0, 0, 0), (.iload_n 3, 191, 0, 0, 0), (.isub, 192, 0, 0, 0), (.invokevirtual 458, 193, 290, 2, 6107), (.iinc 3 1, 196, 0, 0, 0), (.goto (-25), 199, 0, 0, 0)], 202),
  (202, [false, false, false, false, false, false, false, false], [(.return_, 202, 0, 0, 0)], 203)]
def z_md_290 : z_Md := (false, [], (fun t => z_B_290.lookup t), 8)
set_option maxRecDepth 100000 in
theorem z_gm_290 {mt : Nat → z_Md} (h : mt 290 = z_md_290) : z_gm z_mi mt 290 := z_okB_ok (o := 14) (vp := 0) (md := (false, [], 8)) (bl := z_B_290) h (fun z => absurd rfl z) (by decide +kernel)
/-- LacedHolesModel.weeks(II)I -/
def z_B_291 : z_Bk := [(0, [true, true, true], [(.aload_n 0, 0, 0, 0, 0), (.iconst 0, 1, 0, 0, 0), (.putfield 112, 2, 11, 0, 85), (.aload_n 0, 5, 0, 0, 0), (.iload_n 1, 6, 0, 0, 0), (.iconst 1, 7, 0, 0, 0), (.bipush 12, 8, 0, 0, 0), (.invokestatic 150, 10, 180, 3, 279), (.ifCond .eq 12, 13, 0, 0, 0), (.iload_n 2, 16, 0, 0, 0), (.iconst 0, 17, 0, 0, 0), (.iconst 1, 18, 0, 0, 0), (.invokestatic 150, 19, 180, 3, 279), (.ifCond .ne 7, 22, 0, 0, 0)], 25),
  (25, [true, true, true], [(.iconst 1, 25, 0, 0, 0), (.goto 4, 26, 0, 0, 0)], 29),
  (29, [true, true, true], [(.iconst 0, 29, 0, 0, 0)], 30),
  (30, [true, true, true], [(.iconst 1, 30, 0, 0, 0), (.invokevirtual 172, 31, 179, 2, 4491), (.ifCond .eq 5, 34, 0, 0, 0), (.iconst 0, 37, 0, 0, 0), (.ireturn, 38, 0, 0, 0)], 39),
  (39, [true, true, true], [(.aload_n 0, 39, 0, 0, 0), (.getfield 195, 40, 11, 15, 100), (.ifCond .ne 5, 43, 0, 0, 0), (.iconst (-1), 46, 0, 0, 0), (.ireturn, 47, 0, 0, 0)], 48),
  (48, [true, true, true], [(.aload_n 0, 48, 0, 0, 0), (.iconst (-1), 49, 0, 0, 0), (.putfield 452, 50, 11, 45, 130), (.aload_n 0, 53, 0, 0, 0), (.iconst 0, 54, 0, 0, 0), (.iload_n 1, 55, 0, 0, 0), (.invokevirtual 458, 56, 290, 2, 6107), (.iload_n 2, 59, 0, 0, 0), (.ifCond .ne 10, 60, 0, 0, 0), (.aload_n 0, 63, 0, 0, 0), (.getfield 452, 64, 11, 45, 130), (.goto 7, 67, 0, 0, 0)], 70),
  (70, [true, false, false], [(.aload_n 0, 70, 0, 0, 0), (.getfield 455, 71, 11, 46, 131)], 74),
  (74, [false, false, false], [(.ireturn, 74, 0, 0, 0)], 75)]
def z_md_291 : z_Md := (false, [], (fun t => z_B_291.lookup t), 3)
set_option maxRecDepth 100000 in
theorem z_gm_291 {mt : Nat → z_Md} (h : mt 291 = z_md_291) : z_gm z_mi mt 291 := z_okB_ok (o := 14) (vp := 0) (md := (false, [], 3)) (bl := z_B_291) h (fun z => absurd rfl z) (by decide +kernel)
/-- LacedHolesModel.draw(I)I -/
def z_B_292 : z_Bk := [(0, [true, true, false, false], [(.aload_n 0, 0, 0, 0, 0), (.iconst 0, 1, 0, 0, 0), (.putfield 112, 2, 11, 0, 85), (.aload_n 0, 5, 0, 0, 0), (.invokevirtual 183, 6, 200, 0, 4683), (.invokestatic 186, 9, 201, 1, 294), (.iconst 3, 12, 0, 0, 0), (.if_icmp .ge 7, 13, 0, 0, 0), (.lconst 0, 16, 0, 0, 0), (.goto 11, 17, 0, 0, 0)], 20),
  (20, [true, true, false, false], [(.aload_n 0, 20, 0, 0, 0), (.aload_n 0, 21, 0, 0, 0), (.invokevirtual 183, 22, 200, 0, 4683), (.invokevirtual 351, 25, 242, 1, 5211)], 28),
  (28, [true, true, false, false], [(.lstore_n 2, 28, 0, 0, 0), (.lload_n 2, 29, 0, 0, 0), (.lconst 0, 30, 0, 0, 0), (.lcmp, 31, 0, 0, 0), (.ifCond .ne 5, 32, 0, 0, 0), (.iconst (-1), 35, 0, 0, 0), (.ireturn, 36, 0, 0, 0)], 37),
  (37, [true, true, true, false], [(.aload_n 0, 37, 0, 0, 0), (.aload_n 0, 38, 0, 0, 0), (.invokevirtual 183, 39, 200, 0, 4683), (.iload_n 1, 42, 0, 0, 0), (.ldc_w 461, 43, 0, 12, 2147483647), (.iand, 46, 0, 0, 0), (.iconst 2, 47, 0, 0, 0), (.idiv, 48, 0, 0, 0), (.i2l, 49, 0, 0, 0), (.lload_n 2, 50, 0, 0, 0), (.lrem, 51, 0, 0, 0), (.invokevirtual 354, 52, 244, 2, 5339), (.pop, 55, 0, 0, 0), (.aload_n 0, 56, 0, 0, 0), (.aload_n 0, 57, 0, 0, 0), (.getfield 84, 58, 11, 36, 121), (.aload_n 0, 61, 0, 0, 0), (.getfield 324, 62, 11, 33, 118), (.invokevirtual 207, 65, 196, 2, 4747), (.aload_n 0, 68, 0, 0, 0), (.getfield 324, 69, 11, 33, 118), (.ireturn, 72, 0, 0, 0)], 73)]
def z_md_292 : z_Md := (false, [], (fun t => z_B_292.lookup t), 4)
set_option maxRecDepth 100000 in
theorem z_gm_292 {mt : Nat → z_Md} (h : mt 292 = z_md_292) : z_gm z_mi mt 292 := z_okB_ok (o := 14) (vp := 0) (md := (false, [], 4)) (bl := z_B_292) h (fun z => absurd rfl z) (by decide +kernel)
/-- LacedHolesModel.moves([IIZ)I -/
def z_B_293 : z_Bk := [(0, [true, true, true, true], [(.iload_n 3, 0, 0, 0, 0), (.ifCond .ne 10, 1, 0, 0, 0), (.aload_n 1, 4, 0, 0, 0), (.aload_n 0, 5, 0, 0, 0), (.getfield 462, 6, 11, 17, 102), (.iload_n 2, 9, 0, 0, 0), (.iastore, 10, 0, 0, 0)], 11),
  (11, [true, true, false, false], [(.aload_n 0, 11, 0, 0, 0), (.dup, 12, 0, 0, 0), (.getfield 462, 13, 11, 17, 102), (.iconst 1, 16, 0, 0, 0), (.iadd, 17, 0, 0, 0), (.putfield 462, 18, 11, 17, 102), (.aload_n 1, 21, 0, 0, 0), (.aload_n 0, 22, 0, 0, 0), (.getfield 462, 23, 11, 17, 102), (.iconst 1, 26, 0, 0, 0), (.isub, 27, 0, 0, 0), (.iaload, 28, 0, 0, 0), (.ireturn, 29, 0, 0, 0)], 30)]
def z_md_293 : z_Md := (false, [], (fun t => z_B_293.lookup t), 4)
set_option maxRecDepth 100000 in
theorem z_gm_293 {mt : Nat → z_Md} (h : mt 293 = z_md_293) : z_gm z_mi mt 293 := z_okB_ok (o := 14) (vp := 0) (md := (false, [], 4)) (bl := z_B_293) h (fun z => absurd rfl z) (by decide +kernel)
/-- LacedHolesModel.movesAll([IZ)V -/
def z_B_294 : z_Bk := [(0, [true, true, true, false, false], [(.aload_n 0, 0, 0, 0, 0), (.iconst 0, 1, 0, 0, 0), (.putfield 462, 2, 11, 17, 102), (.aload_n 0, 5, 0, 0, 0), (.aload_n 0, 6, 0, 0, 0), (.aload_n 1, 7, 0, 0, 0), (.aload_n 0, 8, 0, 0, 0), (.getfield 189, 9, 11, 13, 98), (.iload_n 2, 12, 0, 0, 0), (.invokevirtual 465, 13, 293, 3, 6171), (.putfield 189, 16, 11, 13, 98), (.aload_n 0, 19, 0, 0, 0), (.aload_n 0, 20, 0, 0, 0), (.aload_n 1, 21, 0, 0, 0), (.aload_n 0, 22, 0, 0, 0), (.getfield 192, 23, 11, 14, 99), (.iload_n 2, 26, 0, 0, 0), (.invokevirtual 465, 27, 293, 3, 6171), (.putfield 192, 30, 11, 14, 99), (.aload_n 0, 33, 0, 0, 0), (.aload_n 0, 34, 0, 0, 0), (.aload_n 1, 35, 0, 0, 0), (.aload_n 0, 36, 0, 0, 0), (.getfield 195, 37, 11, 15, 100), (.iload_n 2, 40, 0, 0, 0), (.invokevirtual 465, 41, 293, 3, 6171), (.putfield 195, 44, 11, 15, 100), (.iconst 0, 47, 0, 0, 0), (.istore_n 3, 48, 0, 0, 0)], 49),
  (49, [true, true, true, true, false], [(.iload_n 3, 49, 0, 0, 0), (.bipush 12, 50, 0, 0, 0), (.if_icmp .ge 27, 52, 0, 0, 0), (.aload_n 0, 55, 0, 0, 0), (.getfield 26, 56, 11, 12, 97), (.iload_n 3, 59, 0, 0, 0), (.aload_n 0, 60, 0, 0, 0), (.aload_n 1, 61, 0, 0, 0), (.aload_n 0, 62, 0, 0, 0), (.getfield 26, 63, 11, 12, 97), (.iload_n 3, 66, 0, 0, 0), (.iaload, 67, 0, 0, 0), (.iload_n 2, 68, 0, 0, 0), (.invokevirtual 465, 69, 293, 3, 6171), (.iastore, 72, 0, 0, 0), (.iinc 3 1, 73, 0, 0, 0), (.goto (-27), 76, 0, 0, 0)], 79),
  (79, [true, true, true, false, false], [(.iconst 0, 79, 0, 0, 0), (.istore_n 3, 80, 0, 0, 0)], 81),
  (81, [true, true, true, true, false], [(.iload_n 3, 81, 0, 0, 0), (.bipush 6, 82, 0, 0, 0), (.if_icmp .ge 48, 84, 0, 0, 0), (.iconst 0, 87, 0, 0, 0), (.istore 4, 88, 0, 0, 0)], 90),
  (90, [true, true, true, true, true], [(.iload 4, 90, 0, 0, 0), (.iconst 2, 92, 0, 0, 0), (.if_icmp .ge 33, 93, 0, 0, 0), (.aload_n 0, 96, 0, 0, 0), (.getfield 31, 97, 11, 18, 103), (.iload_n 3, 100, 0, 0, 0), (.aaload, 101, 0, 0, 0), (.iload 4, 102, 0, 0, 0), (.aload_n 0, 104, 0, 0, 0), (.aload_n 1, 105, 0, 0, 0), (.aload_n 0, 106, 0, 0, 0), (.getfield 31, 107, 11, 18, 103), (.iload_n 3, 110, 0, 0, 0), (.aaload, 111, 0, 0, 0), (.iload 4, 112, 0, 0, 0), (.iaload, 114, 0, 0, 0), (.iload_n 2, 115, 0, 0, 0), (.invokevirtual 465, 116, 293, 3, 6171), (.iastore, 119, 0, 0, 0), (.iinc 4 1, 120, 0, 0, 0), (.goto (-33), 123, 0, 0, 0)], 126),
  (126, [true, true, true, true, false], [(.iinc 3 1, 126, 0, 0, 0), (.goto (-48), 129, 0, 0, 0)], 132),
  (132, [true, true, true, false, false], [(.iconst 0, 132, 0, 0, 0), (.istore_n 3, 133, 0, 0, 0)], 134),
  (134, [true, true, true, true, false], [(.iload_n 3, 134, 0, 0, 0), (.iconst 4, 135, 0, 0, 0), (.if_icmp .ge 49, 136, 0, 0, 0), (.iconst 0, 139, 0, 0, 0), (.istore 4, 140, 0, 0, 0)], 142),
  (142, [true, true, true, true, true], [(.iload 4, 142, 0, 0, 0), (.bipush 12, 144, 0, 0, 0), (.if_icmp .gt 33, 146, 0, 0, 0), (.aload_n 0, 149, 0, 0, 0), (.getfield 34, 150, 11, 19, 104), (.iload_n 3, 153, 0, 0, 0), (.aaload, 154, 0, 0, 0), (.iload 4, 155, 0, 0, 0), (.aload_n 0, 157, 0, 0, 0), (.aload_n 1, 158, 0, 0, 0), (.aload_n 0, 159, 0, 0, 0), (.getfield 34, 160, 11, 19, 104), (.iload_n 3, 163, 0, 0, 0), (.aaload, 164, 0, 0, 0), (.iload 4, 165, 0, 0, 0), (.iaload, 167, 0, 0, 0), (.iload_n 2, 168, 0, 0, 0), (.invokevirtual 465, 169, 293, 3, 6171), (.iastore, 172, 0, 0, 0), (.iinc 4 1, 173, 0, 0, 0), (.goto (-34), 176, 0, 0, 0)], 179),
  (179, [true, true, true, true, false], [(.iinc 3 1, 179, 0, 0, 0), (.goto (-48), 182, 0, 0, 0)], 185),
  (185, [false, false, false, false, false], [(.return_, 185, 0, 0, 0)], 186)]
def z_md_294 : z_Md := (false, [], (fun t => z_B_294.lookup t), 5)
set_option maxRecDepth 100000 in
theorem z_gm_294 {mt : Nat → z_Md} (h : mt 294 = z_md_294) : z_gm z_mi mt 294 := z_okB_ok (o := 14) (vp := 0) (md := (false, [], 5)) (bl := z_B_294) h (fun z => absurd rfl z) (by decide +kernel)
/-- LacedHolesModel.image()I -/
def z_B_295 : z_Bk := [(0, [true], [(.aload_n 0, 0, 0, 0, 0), (.iconst 0, 1, 0, 0, 0), (.putfield 112, 2, 11, 0, 85), (.aload_n 0, 5, 0, 0, 0), (.getfield 198, 6, 11, 16, 101), (.iconst 3, 9, 0, 0, 0), (.if_icmp .ne 5, 10, 0, 0, 0), (.iconst (-1), 13, 0, 0, 0), (.ireturn, 14, 0, 0, 0)], 15),
  (15, [true], [(.aload_n 0, 15, 0, 0, 0), (.aload_n 0, 16, 0, 0, 0), (.getfield 37, 17, 11, 20, 105), (.aload_n 0, 20, 0, 0, 0), (.getfield 198, 21, 11, 16, 101), (.aaload, 24, 0, 0, 0), (.iconst 0, 25, 0, 0, 0), (.invokevirtual 469, 26, 294, 2, 6155), (.aload_n 0, 29, 0, 0, 0), (.dup, 30, 0, 0, 0), (.getfield 198, 31, 11, 16, 101), (.iconst 1, 34, 0, 0, 0), (.iadd, 35, 0, 0, 0), (.putfield 198, 36, 11, 16, 101), (.aload_n 0, 39, 0, 0, 0), (.getfield 198, 40, 11, 16, 101), (.ireturn, 43, 0, 0, 0)], 44)]
def z_md_295 : z_Md := (false, [], (fun t => z_B_295.lookup t), 1)
set_option maxRecDepth 100000 in
theorem z_gm_295 {mt : Nat → z_Md} (h : mt 295 = z_md_295) : z_gm z_mi mt 295 := z_okB_ok (o := 14) (vp := 0) (md := (false, [], 1)) (bl := z_B_295) h (fun z => absurd rfl z) (by decide +kernel)
/-- LacedHolesModel.restore()I -/
def z_B_296 : z_Bk := [(0, [true], [(.aload_n 0, 0, 0, 0, 0), (.iconst 0, 1, 0, 0, 0), (.putfield 112, 2, 11, 0, 85), (.aload_n 0, 5, 0, 0, 0), (.getfield 198, 6, 11, 16, 101), (.ifCond .ne 5, 9, 0, 0, 0), (.iconst (-1), 12, 0, 0, 0), (.ireturn, 13, 0, 0, 0)], 14),
  (14, [true], [(.aload_n 0, 14, 0, 0, 0), (.dup, 15, 0, 0, 0), (.getfield 198, 16, 11, 16, 101), (.iconst 1, 19, 0, 0, 0), (.isub, 20, 0, 0, 0), (.putfield 198, 21, 11, 16, 101), (.aload_n 0, 24, 0, 0, 0), (.aload_n 0, 25, 0, 0, 0), (.getfield 37, 26, 11, 20, 105), (.aload_n 0, 29, 0, 0, 0), (.getfield 198, 30, 11, 16, 101), (.aaload, 33, 0, 0, 0), (.iconst 1, 34, 0, 0, 0), (.invokevirtual 469, 35, 294, 2, 6155), (.aload_n 0, 38, 0, 0, 0), (.getfield 198, 39, 11, 16, 101), (.ireturn, 42, 0, 0, 0)], 43)]
def z_md_296 : z_Md := (false, [], (fun t => z_B_296.lookup t), 1)
set_option maxRecDepth 100000 in
theorem z_gm_296 {mt : Nat → z_Md} (h : mt 296 = z_md_296) : z_gm z_mi mt 296 := z_okB_ok (o := 14) (vp := 0) (md := (false, [], 1)) (bl := z_B_296) h (fun z => absurd rfl z) (by decide +kernel)
/-- LacedHolesModel.sums(I)I -/
def z_B_297 : z_Bk := [(0, [true, true], [(.aload_n 0, 0, 0, 0, 0), (.iconst 0, 1, 0, 0, 0), (.putfield 112, 2, 11, 0, 85), (.iload_n 1, 5, 0, 0, 0), (.tableswitch 50 0 3 #[30, 35, 40, 45], 6, 0, 0, 0)], 7),
  (36, [true, false], [(.aload_n 0, 36, 0, 0, 0), (.getfield 195, 37, 11, 15, 100), (.ireturn, 40, 0, 0, 0)], 41),
  (41, [true, false], [(.aload_n 0, 41, 0, 0, 0), (.getfield 192, 42, 11, 14, 99), (.ireturn, 45, 0, 0, 0)], 46),
  (46, [true, false], [(.aload_n 0, 46, 0, 0, 0), (.getfield 198, 47, 11, 16, 101), (.ireturn, 50, 0, 0, 0)], 51),
  (51, [true, false], [(.aload_n 0, 51, 0, 0, 0), (.getfield 115, 52, 11, 1, 86), (.ireturn, 55, 0, 0, 0)], 56),
  (56, [false, false], [(.iconst (-1), 56, 0, 0, 0), (.ireturn, 57, 0, 0, 0)], 58)]
def z_md_297 : z_Md := (false, [], (fun t => z_B_297.lookup t), 2)
set_option maxRecDepth 100000 in
theorem z_gm_297 {mt : Nat → z_Md} (h : mt 297 = z_md_297) : z_gm z_mi mt 297 := z_okB_ok (o := 14) (vp := 0) (md := (false, [], 2)) (bl := z_B_297) h (fun z => absurd rfl z) (by decide +kernel)
/-- LacedHolesLaw.boot(LLacedHoles;I[J)I -/
def z_B_298 : z_Bk := [(0, [true, true, true, false], [(.aload_n 2, 0, 0, 0, 0), (.iconst 0, 1, 0, 0, 0), (.aload_n 0, 2, 0, 0, 0), (.iload_n 1, 3, 0, 0, 0), (.invokevirtual 7, 4, 137, 1, 2266), (.i2l, 7, 0, 0, 0), (.lastore, 8, 0, 0, 0), (.goto 6, 9, 0, 0, 0)], 12),
  (12, [false, false, false, false], [(.astore_n 3, 12, 0, 0, 0), (.iconst 1, 13, 0, 0, 0), (.ireturn, 14, 0, 0, 0)], 15),
  (15, [false, false, false, false], [(.iconst 0, 15, 0, 0, 0), (.ireturn, 16, 0, 0, 0)], 17)]
def z_md_298 : z_Md := (false, [(0, 12)], (fun t => z_B_298.lookup t), 4)
set_option maxRecDepth 100000 in
theorem z_hx_298 : ∀ k h, ([(0, 12)] : List (Nat × Nat)).lookup k = some h → z_hx (z_ow 15) (z_mi 298).2.2.2.2.2 4 k h := by
  intro k h hk
  have hm := z_lookup_mem hk
  simp only [List.mem_cons, List.not_mem_nil, or_false, Prod.mk.injEq] at hm
  obtain ⟨rfl, rfl⟩ := hm
  exact ⟨[], ⟨0, 9, 12, 13⟩, [], rfl, rfl, by decide, by decide, z_c_ok _ (List.mem_of_getElem? (i := 14) rfl), z_cas0, fun z hz => nomatch hz⟩
set_option maxRecDepth 100000 in
theorem z_gm_298 {mt : Nat → z_Md} (h : mt 298 = z_md_298) : z_gm z_mi mt 298 := z_okB_ok (o := 15) (vp := 4) (md := (false, [(0, 12)], 4)) (bl := z_B_298) h (fun _ => z_hx_298) (by decide +kernel)
/-- LacedHolesLaw.way(LLacedHoles;I[J)I -/
def z_B_299 : z_Bk := [(0, [true, true, true, false], [(.aload_n 2, 0, 0, 0, 0), (.iconst 0, 1, 0, 0, 0), (.aload_n 0, 2, 0, 0, 0), (.iload_n 1, 3, 0, 0, 0), (.invokevirtual 15, 4, 138, 1, 2794), (.i2l, 7, 0, 0, 0), (.lastore, 8, 0, 0, 0), (.goto 6, 9, 0, 0, 0)], 12),
  (12, [false, false, false, false], [(.astore_n 3, 12, 0, 0, 0), (.iconst 1, 13, 0, 0, 0), (.ireturn, 14, 0, 0, 0)], 15),
  (15, [false, false, false, false], [(.iconst 0, 15, 0, 0, 0), (.ireturn, 16, 0, 0, 0)], 17)]
def z_md_299 : z_Md := (false, [(0, 12)], (fun t => z_B_299.lookup t), 4)
set_option maxRecDepth 100000 in
theorem z_hx_299 : ∀ k h, ([(0, 12)] : List (Nat × Nat)).lookup k = some h → z_hx (z_ow 15) (z_mi 299).2.2.2.2.2 4 k h := by
  intro k h hk
  have hm := z_lookup_mem hk
  simp only [List.mem_cons, List.not_mem_nil, or_false, Prod.mk.injEq] at hm
  obtain ⟨rfl, rfl⟩ := hm
  exact ⟨[], ⟨0, 9, 12, 13⟩, [], rfl, rfl, by decide, by decide, z_c_ok _ (List.mem_of_getElem? (i := 14) rfl), z_cas0, fun z hz => nomatch hz⟩
set_option maxRecDepth 100000 in
theorem z_gm_299 {mt : Nat → z_Md} (h : mt 299 = z_md_299) : z_gm z_mi mt 299 := z_okB_ok (o := 15) (vp := 4) (md := (false, [(0, 12)], 4)) (bl := z_B_299) h (fun _ => z_hx_299) (by decide +kernel)
/-- LacedHolesLaw.told(LLacedHoles;I[J)I -/
def z_B_300 : z_Bk := [(0, [true, true, true, false], [(.aload_n 2, 0, 0, 0, 0), (.iconst 0, 1, 0, 0, 0), (.aload_n 0, 2, 0, 0, 0), (.iload_n 1, 3, 0, 0, 0), (.invokevirtual 18, 4, 140, 1, 2970), (.i2l, 7, 0, 0, 0), (.lastore, 8, 0, 0, 0), (.goto 6, 9, 0, 0, 0)], 12),
  (12, [false, false, false, false], [(.astore_n 3, 12, 0, 0, 0), (.iconst 1, 13, 0, 0, 0), (.ireturn, 14, 0, 0, 0)], 15),
  (15, [false, false, false, false], [(.iconst 0, 15, 0, 0, 0), (.ireturn, 16, 0, 0, 0)], 17)]
def z_md_300 : z_Md := (false, [(0, 12)], (fun t => z_B_300.lookup t), 4)
set_option maxRecDepth 100000 in
theorem z_hx_300 : ∀ k h, ([(0, 12)] : List (Nat × Nat)).lookup k = some h → z_hx (z_ow 15) (z_mi 300).2.2.2.2.2 4 k h := by
  intro k h hk
  have hm := z_lookup_mem hk
  simp only [List.mem_cons, List.not_mem_nil, or_false, Prod.mk.injEq] at hm
  obtain ⟨rfl, rfl⟩ := hm
  exact ⟨[], ⟨0, 9, 12, 13⟩, [], rfl, rfl, by decide, by decide, z_c_ok _ (List.mem_of_getElem? (i := 14) rfl), z_cas0, fun z hz => nomatch hz⟩
set_option maxRecDepth 100000 in
theorem z_gm_300 {mt : Nat → z_Md} (h : mt 300 = z_md_300) : z_gm z_mi mt 300 := z_okB_ok (o := 15) (vp := 4) (md := (false, [(0, 12)], 4)) (bl := z_B_300) h (fun _ => z_hx_300) (by decide +kernel)
/-- LacedHolesLaw.span(LLacedHoles;II[J)I -/
def z_B_301 : z_Bk := [(0, [true, true, true, true, false], [(.aload_n 3, 0, 0, 0, 0), (.iconst 0, 1, 0, 0, 0), (.aload_n 0, 2, 0, 0, 0), (.iload_n 1, 3, 0, 0, 0), (.iload_n 2, 4, 0, 0, 0), (.invokevirtual 21, 5, 141, 2, 3002), (.i2l, 8, 0, 0, 0), (.lastore, 9, 0, 0, 0), (.goto 11, 10, 0, 0, 0)], 13),
  (13, [false, false, false, false, false], [(.astore 4, 13, 0, 0, 0), (.iconst 1, 15, 0, 0, 0), (.ireturn, 16, 0, 0, 0)], 17),
  (17, [false, false, false, false, false], [(.astore 4, 17, 0, 0, 0), (.iconst 2, 19, 0, 0, 0), (.ireturn, 20, 0, 0, 0)], 21),
  (21, [false, false, false, false, false], [(.iconst 0, 21, 0, 0, 0), (.ireturn, 22, 0, 0, 0)], 23)]
def z_md_301 : z_Md := (false, [(1, 13), (0, 17)], (fun t => z_B_301.lookup t), 5)
set_option maxRecDepth 100000 in
theorem z_hx_301 : ∀ k h, ([(1, 13), (0, 17)] : List (Nat × Nat)).lookup k = some h → z_hx (z_ow 15) (z_mi 301).2.2.2.2.2 5 k h := by
  intro k h hk
  have hm := z_lookup_mem hk
  simp only [List.mem_cons, List.not_mem_nil, or_false, Prod.mk.injEq] at hm
  rcases hm with ⟨rfl, rfl⟩ | ⟨rfl, rfl⟩
  · exact ⟨[], ⟨0, 10, 13, 25⟩, [⟨0, 10, 17, 13⟩], rfl, rfl, by decide, by decide, z_c_ok _ (List.mem_of_getElem? (i := 16) rfl), z_cas1, fun z hz => nomatch hz⟩
  · exact ⟨[⟨0, 10, 13, 25⟩], ⟨0, 10, 17, 13⟩, [], rfl, rfl, by decide, by decide, z_c_ok _ (List.mem_of_getElem? (i := 14) rfl), z_cas0, fun z hz => by
    rcases List.mem_singleton.mp hz with rfl
    exact ⟨by decide, 1, z_c_ok _ (List.mem_of_getElem? (i := 16) rfl), Or.inl ⟨rfl, Or.inl rfl⟩⟩⟩
set_option maxRecDepth 100000 in
theorem z_gm_301 {mt : Nat → z_Md} (h : mt 301 = z_md_301) : z_gm z_mi mt 301 := z_okB_ok (o := 15) (vp := 5) (md := (false, [(1, 13), (0, 17)], 5)) (bl := z_B_301) h (fun _ => z_hx_301) (by decide +kernel)
/-- LacedHolesLaw.judge(LLacedHoles;[J)I -/
def z_B_302 : z_Bk := [(0, [true, true, false], [(.aload_n 1, 0, 0, 0, 0), (.iconst 0, 1, 0, 0, 0), (.aload_n 0, 2, 0, 0, 0), (.invokevirtual 27, 3, 143, 0, 3082), (.i2l, 6, 0, 0, 0), (.lastore, 7, 0, 0, 0), (.goto 6, 8, 0, 0, 0)], 11),
  (11, [false, false, false], [(.astore_n 2, 11, 0, 0, 0), (.iconst 1, 12, 0, 0, 0), (.ireturn, 13, 0, 0, 0)], 14),
  (14, [false, false, false], [(.iconst 0, 14, 0, 0, 0), (.ireturn, 15, 0, 0, 0)], 16)]
def z_md_302 : z_Md := (false, [(2, 11)], (fun t => z_B_302.lookup t), 3)
set_option maxRecDepth 100000 in
theorem z_hx_302 : ∀ k h, ([(2, 11)] : List (Nat × Nat)).lookup k = some h → z_hx (z_ow 15) (z_mi 302).2.2.2.2.2 3 k h := by
  intro k h hk
  have hm := z_lookup_mem hk
  simp only [List.mem_cons, List.not_mem_nil, or_false, Prod.mk.injEq] at hm
  obtain ⟨rfl, rfl⟩ := hm
  exact ⟨[], ⟨0, 8, 11, 31⟩, [], rfl, rfl, by decide, by decide, z_c_ok _ (List.mem_of_getElem? (i := 18) rfl), z_cas2, fun z hz => nomatch hz⟩
set_option maxRecDepth 100000 in
theorem z_gm_302 {mt : Nat → z_Md} (h : mt 302 = z_md_302) : z_gm z_mi mt 302 := z_okB_ok (o := 15) (vp := 3) (md := (false, [(2, 11)], 3)) (bl := z_B_302) h (fun _ => z_hx_302) (by decide +kernel)
/-- LacedHolesLaw.measure(LLacedHoles;I[J)I -/
def z_B_303 : z_Bk := [(0, [true, true, true, false], [(.aload_n 2, 0, 0, 0, 0), (.iconst 0, 1, 0, 0, 0), (.aload_n 0, 2, 0, 0, 0), (.iload_n 1, 3, 0, 0, 0), (.invokevirtual 33, 4, 144, 1, 3194), (.i2l, 7, 0, 0, 0), (.lastore, 8, 0, 0, 0), (.goto 9, 9, 0, 0, 0)], 12),
  (12, [false, false, false, false], [(.astore_n 3, 12, 0, 0, 0), (.iconst 1, 13, 0, 0, 0), (.ireturn, 14, 0, 0, 0)], 15),
  (15, [false, false, false, false], [(.astore_n 3, 15, 0, 0, 0), (.iconst 2, 16, 0, 0, 0), (.ireturn, 17, 0, 0, 0)], 18),
  (18, [false, false, false, false], [(.iconst 0, 18, 0, 0, 0), (.ireturn, 19, 0, 0, 0)], 20)]
def z_md_303 : z_Md := (false, [(2, 12), (0, 15)], (fun t => z_B_303.lookup t), 4)
set_option maxRecDepth 100000 in
theorem z_hx_303 : ∀ k h, ([(2, 12), (0, 15)] : List (Nat × Nat)).lookup k = some h → z_hx (z_ow 15) (z_mi 303).2.2.2.2.2 4 k h := by
  intro k h hk
  have hm := z_lookup_mem hk
  simp only [List.mem_cons, List.not_mem_nil, or_false, Prod.mk.injEq] at hm
  rcases hm with ⟨rfl, rfl⟩ | ⟨rfl, rfl⟩
  · exact ⟨[], ⟨0, 9, 12, 31⟩, [⟨0, 9, 15, 13⟩], rfl, rfl, by decide, by decide, z_c_ok _ (List.mem_of_getElem? (i := 18) rfl), z_cas2, fun z hz => nomatch hz⟩
  · exact ⟨[⟨0, 9, 12, 31⟩], ⟨0, 9, 15, 13⟩, [], rfl, rfl, by decide, by decide, z_c_ok _ (List.mem_of_getElem? (i := 14) rfl), z_cas0, fun z hz => by
    rcases List.mem_singleton.mp hz with rfl
    exact ⟨by decide, 2, z_c_ok _ (List.mem_of_getElem? (i := 18) rfl), Or.inl ⟨rfl, Or.inr rfl⟩⟩⟩
set_option maxRecDepth 100000 in
theorem z_gm_303 {mt : Nat → z_Md} (h : mt 303 = z_md_303) : z_gm z_mi mt 303 := z_okB_ok (o := 15) (vp := 4) (md := (false, [(2, 12), (0, 15)], 4)) (bl := z_B_303) h (fun _ => z_hx_303) (by decide +kernel)
/-- LacedHolesLaw.number(LLacedHoles;[J)I -/
def z_B_304 : z_Bk := [(0, [true, true, false], [(.aload_n 1, 0, 0, 0, 0), (.iconst 0, 1, 0, 0, 0), (.aload_n 0, 2, 0, 0, 0), (.invokevirtual 36, 3, 145, 0, 3354), (.lastore, 6, 0, 0, 0), (.goto 6, 7, 0, 0, 0)], 10),
  (10, [false, false, false], [(.astore_n 2, 10, 0, 0, 0), (.iconst 1, 11, 0, 0, 0), (.ireturn, 12, 0, 0, 0)], 13),
  (13, [false, false, false], [(.iconst 0, 13, 0, 0, 0), (.ireturn, 14, 0, 0, 0)], 15)]
def z_md_304 : z_Md := (false, [(2, 10)], (fun t => z_B_304.lookup t), 3)
set_option maxRecDepth 100000 in
theorem z_hx_304 : ∀ k h, ([(2, 10)] : List (Nat × Nat)).lookup k = some h → z_hx (z_ow 15) (z_mi 304).2.2.2.2.2 3 k h := by
  intro k h hk
  have hm := z_lookup_mem hk
  simp only [List.mem_cons, List.not_mem_nil, or_false, Prod.mk.injEq] at hm
  obtain ⟨rfl, rfl⟩ := hm
  exact ⟨[], ⟨0, 7, 10, 31⟩, [], rfl, rfl, by decide, by decide, z_c_ok _ (List.mem_of_getElem? (i := 18) rfl), z_cas2, fun z hz => nomatch hz⟩
set_option maxRecDepth 100000 in
theorem z_gm_304 {mt : Nat → z_Md} (h : mt 304 = z_md_304) : z_gm z_mi mt 304 := z_okB_ok (o := 15) (vp := 3) (md := (false, [(2, 10)], 3)) (bl := z_B_304) h (fun _ => z_hx_304) (by decide +kernel)
/-- LacedHolesLaw.count(LLacedHoles;I[J)I -/
def z_B_305 : z_Bk := [(0, [true, true, true, false], [(.aload_n 2, 0, 0, 0, 0), (.iconst 0, 1, 0, 0, 0), (.aload_n 0, 2, 0, 0, 0), (.iload_n 1, 3, 0, 0, 0), (.invokevirtual 40, 4, 146, 1, 3434), (.lastore, 7, 0, 0, 0), (.goto 6, 8, 0, 0, 0)], 11),
  (11, [false, false, false, false], [(.astore_n 3, 11, 0, 0, 0), (.iconst 1, 12, 0, 0, 0), (.ireturn, 13, 0, 0, 0)], 14),
  (14, [false, false, false, false], [(.iconst 0, 14, 0, 0, 0), (.ireturn, 15, 0, 0, 0)], 16)]
def z_md_305 : z_Md := (false, [(0, 11)], (fun t => z_B_305.lookup t), 4)
set_option maxRecDepth 100000 in
theorem z_hx_305 : ∀ k h, ([(0, 11)] : List (Nat × Nat)).lookup k = some h → z_hx (z_ow 15) (z_mi 305).2.2.2.2.2 4 k h := by
  intro k h hk
  have hm := z_lookup_mem hk
  simp only [List.mem_cons, List.not_mem_nil, or_false, Prod.mk.injEq] at hm
  obtain ⟨rfl, rfl⟩ := hm
  exact ⟨[], ⟨0, 8, 11, 13⟩, [], rfl, rfl, by decide, by decide, z_c_ok _ (List.mem_of_getElem? (i := 14) rfl), z_cas0, fun z hz => nomatch hz⟩
set_option maxRecDepth 100000 in
theorem z_gm_305 {mt : Nat → z_Md} (h : mt 305 = z_md_305) : z_gm z_mi mt 305 := z_okB_ok (o := 15) (vp := 4) (md := (false, [(0, 11)], 4)) (bl := z_B_305) h (fun _ => z_hx_305) (by decide +kernel)
/-- LacedHolesLaw.take(LLacedHoles;IJ[J)I -/
def z_B_306 : z_Bk := [(0, [true, true, true, false, true, false], [(.aload 4, 0, 0, 0, 0), (.iconst 0, 2, 0, 0, 0), (.aload_n 0, 3, 0, 0, 0), (.iload_n 1, 4, 0, 0, 0), (.lload_n 2, 5, 0, 0, 0), (.invokevirtual 44, 6, 147, 2, 3482), (.i2l, 9, 0, 0, 0), (.lastore, 10, 0, 0, 0), (.goto 7, 11, 0, 0, 0)], 14),
  (14, [false, false, false, false, false, false], [(.astore 5, 14, 0, 0, 0), (.iconst 1, 16, 0, 0, 0), (.ireturn, 17, 0, 0, 0)], 18),
  (18, [false, false, false, false, false, false], [(.iconst 0, 18, 0, 0, 0), (.ireturn, 19, 0, 0, 0)], 20)]
def z_md_306 : z_Md := (false, [(0, 14)], (fun t => z_B_306.lookup t), 6)
set_option maxRecDepth 100000 in
theorem z_hx_306 : ∀ k h, ([(0, 14)] : List (Nat × Nat)).lookup k = some h → z_hx (z_ow 15) (z_mi 306).2.2.2.2.2 6 k h := by
  intro k h hk
  have hm := z_lookup_mem hk
  simp only [List.mem_cons, List.not_mem_nil, or_false, Prod.mk.injEq] at hm
  obtain ⟨rfl, rfl⟩ := hm
  exact ⟨[], ⟨0, 11, 14, 13⟩, [], rfl, rfl, by decide, by decide, z_c_ok _ (List.mem_of_getElem? (i := 14) rfl), z_cas0, fun z hz => nomatch hz⟩
set_option maxRecDepth 100000 in
theorem z_gm_306 {mt : Nat → z_Md} (h : mt 306 = z_md_306) : z_gm z_mi mt 306 := z_okB_ok (o := 15) (vp := 6) (md := (false, [(0, 14)], 6)) (bl := z_B_306) h (fun _ => z_hx_306) (by decide +kernel)
/-- LacedHolesLaw.best(LLacedHoles;II[J)I -/
def z_B_307 : z_Bk := [(0, [true, true, true, true, false], [(.aload_n 3, 0, 0, 0, 0), (.iconst 0, 1, 0, 0, 0), (.aload_n 0, 2, 0, 0, 0), (.iload_n 1, 3, 0, 0, 0), (.iload_n 2, 4, 0, 0, 0), (.invokevirtual 48, 5, 148, 2, 3514), (.i2l, 8, 0, 0, 0), (.lastore, 9, 0, 0, 0), (.goto 7, 10, 0, 0, 0)], 13),
  (13, [false, false, false, false, false], [(.astore 4, 13, 0, 0, 0), (.iconst 1, 15, 0, 0, 0), (.ireturn, 16, 0, 0, 0)], 17),
  (17, [false, false, false, false, false], [(.iconst 0, 17, 0, 0, 0), (.ireturn, 18, 0, 0, 0)], 19)]
def z_md_307 : z_Md := (false, [(0, 13)], (fun t => z_B_307.lookup t), 5)
set_option maxRecDepth 100000 in
theorem z_hx_307 : ∀ k h, ([(0, 13)] : List (Nat × Nat)).lookup k = some h → z_hx (z_ow 15) (z_mi 307).2.2.2.2.2 5 k h := by
  intro k h hk
  have hm := z_lookup_mem hk
  simp only [List.mem_cons, List.not_mem_nil, or_false, Prod.mk.injEq] at hm
  obtain ⟨rfl, rfl⟩ := hm
  exact ⟨[], ⟨0, 10, 13, 13⟩, [], rfl, rfl, by decide, by decide, z_c_ok _ (List.mem_of_getElem? (i := 14) rfl), z_cas0, fun z hz => nomatch hz⟩
set_option maxRecDepth 100000 in
theorem z_gm_307 {mt : Nat → z_Md} (h : mt 307 = z_md_307) : z_gm z_mi mt 307 := z_okB_ok (o := 15) (vp := 5) (md := (false, [(0, 13)], 5)) (bl := z_B_307) h (fun _ => z_hx_307) (by decide +kernel)
/-- LacedHolesLaw.against(LLacedHoles;[J)I -/
def z_B_308 : z_Bk := [(0, [true, true, false], [(.aload_n 1, 0, 0, 0, 0), (.iconst 0, 1, 0, 0, 0), (.aload_n 0, 2, 0, 0, 0), (.invokevirtual 51, 3, 149, 0, 3658), (.i2l, 6, 0, 0, 0), (.lastore, 7, 0, 0, 0), (.goto 6, 8, 0, 0, 0)], 11),
  (11, [false, false, false], [(.astore_n 2, 11, 0, 0, 0), (.iconst 1, 12, 0, 0, 0), (.ireturn, 13, 0, 0, 0)], 14),
  (14, [false, false, false], [(.iconst 0, 14, 0, 0, 0), (.ireturn, 15, 0, 0, 0)], 16)]
def z_md_308 : z_Md := (false, [(2, 11)], (fun t => z_B_308.lookup t), 3)
set_option maxRecDepth 100000 in
theorem z_hx_308 : ∀ k h, ([(2, 11)] : List (Nat × Nat)).lookup k = some h → z_hx (z_ow 15) (z_mi 308).2.2.2.2.2 3 k h := by
  intro k h hk
  have hm := z_lookup_mem hk
  simp only [List.mem_cons, List.not_mem_nil, or_false, Prod.mk.injEq] at hm
  obtain ⟨rfl, rfl⟩ := hm
  exact ⟨[], ⟨0, 8, 11, 31⟩, [], rfl, rfl, by decide, by decide, z_c_ok _ (List.mem_of_getElem? (i := 18) rfl), z_cas2, fun z hz => nomatch hz⟩
set_option maxRecDepth 100000 in
theorem z_gm_308 {mt : Nat → z_Md} (h : mt 308 = z_md_308) : z_gm z_mi mt 308 := z_okB_ok (o := 15) (vp := 3) (md := (false, [(2, 11)], 3)) (bl := z_B_308) h (fun _ => z_hx_308) (by decide +kernel)
/-- LacedHolesLaw.itself(LLacedHoles;[J)I -/
def z_B_309 : z_Bk := [(0, [true, true, false], [(.aload_n 1, 0, 0, 0, 0), (.iconst 0, 1, 0, 0, 0), (.aload_n 0, 2, 0, 0, 0), (.invokevirtual 54, 3, 153, 0, 3706), (.i2l, 6, 0, 0, 0), (.lastore, 7, 0, 0, 0), (.goto 6, 8, 0, 0, 0)], 11),
  (11, [false, false, false], [(.astore_n 2, 11, 0, 0, 0), (.iconst 1, 12, 0, 0, 0), (.ireturn, 13, 0, 0, 0)], 14),
  (14, [false, false, false], [(.iconst 0, 14, 0, 0, 0), (.ireturn, 15, 0, 0, 0)], 16)]
def z_md_309 : z_Md := (false, [(2, 11)], (fun t => z_B_309.lookup t), 3)
set_option maxRecDepth 100000 in
theorem z_hx_309 : ∀ k h, ([(2, 11)] : List (Nat × Nat)).lookup k = some h → z_hx (z_ow 15) (z_mi 309).2.2.2.2.2 3 k h := by
  intro k h hk
  have hm := z_lookup_mem hk
  simp only [List.mem_cons, List.not_mem_nil, or_false, Prod.mk.injEq] at hm
  obtain ⟨rfl, rfl⟩ := hm
  exact ⟨[], ⟨0, 8, 11, 31⟩, [], rfl, rfl, by decide, by decide, z_c_ok _ (List.mem_of_getElem? (i := 18) rfl), z_cas2, fun z hz => nomatch hz⟩
set_option maxRecDepth 100000 in
theorem z_gm_309 {mt : Nat → z_Md} (h : mt 309 = z_md_309) : z_gm z_mi mt 309 := z_okB_ok (o := 15) (vp := 3) (md := (false, [(2, 11)], 3)) (bl := z_B_309) h (fun _ => z_hx_309) (by decide +kernel)
/-- LacedHolesLaw.two(LLacedHoles;I[J)I -/
def z_B_310 : z_Bk := [(0, [true, true, true, false], [(.aload_n 2, 0, 0, 0, 0), (.iconst 0, 1, 0, 0, 0), (.aload_n 0, 2, 0, 0, 0), (.iload_n 1, 3, 0, 0, 0), (.invokevirtual 57, 4, 154, 1, 3754), (.i2l, 7, 0, 0, 0), (.lastore, 8, 0, 0, 0), (.goto 6, 9, 0, 0, 0)], 12),
  (12, [false, false, false, false], [(.astore_n 3, 12, 0, 0, 0), (.iconst 1, 13, 0, 0, 0), (.ireturn, 14, 0, 0, 0)], 15),
  (15, [false, false, false, false], [(.iconst 0, 15, 0, 0, 0), (.ireturn, 16, 0, 0, 0)], 17)]
def z_md_310 : z_Md := (false, [(0, 12)], (fun t => z_B_310.lookup t), 4)
set_option maxRecDepth 100000 in
theorem z_hx_310 : ∀ k h, ([(0, 12)] : List (Nat × Nat)).lookup k = some h → z_hx (z_ow 15) (z_mi 310).2.2.2.2.2 4 k h := by
  intro k h hk
  have hm := z_lookup_mem hk
  simp only [List.mem_cons, List.not_mem_nil, or_false, Prod.mk.injEq] at hm
  obtain ⟨rfl, rfl⟩ := hm
  exact ⟨[], ⟨0, 9, 12, 13⟩, [], rfl, rfl, by decide, by decide, z_c_ok _ (List.mem_of_getElem? (i := 14) rfl), z_cas0, fun z hz => nomatch hz⟩
set_option maxRecDepth 100000 in
theorem z_gm_310 {mt : Nat → z_Md} (h : mt 310 = z_md_310) : z_gm z_mi mt 310 := z_okB_ok (o := 15) (vp := 4) (md := (false, [(0, 12)], 4)) (bl := z_B_310) h (fun _ => z_hx_310) (by decide +kernel)
/-- LacedHolesLaw.see(LLacedHoles;II[J)I -/
def z_B_311 : z_Bk := [(0, [true, true, true, true, false], [(.aload_n 3, 0, 0, 0, 0), (.iconst 0, 1, 0, 0, 0), (.aload_n 0, 2, 0, 0, 0), (.iload_n 1, 3, 0, 0, 0), (.iload_n 2, 4, 0, 0, 0), (.invokevirtual 60, 5, 156, 2, 3786), (.i2l, 8, 0, 0, 0), (.lastore, 9, 0, 0, 0), (.goto 11, 10, 0, 0, 0)], 13),
  (13, [false, false, false, false, false], [(.astore 4, 13, 0, 0, 0), (.iconst 1, 15, 0, 0, 0), (.ireturn, 16, 0, 0, 0)], 17),
  (17, [false, false, false, false, false], [(.astore 4, 17, 0, 0, 0), (.iconst 2, 19, 0, 0, 0), (.ireturn, 20, 0, 0, 0)], 21),
  (21, [false, false, false, false, false], [(.iconst 0, 21, 0, 0, 0), (.ireturn, 22, 0, 0, 0)], 23)]
def z_md_311 : z_Md := (false, [(1, 13), (0, 17)], (fun t => z_B_311.lookup t), 5)
set_option maxRecDepth 100000 in
theorem z_hx_311 : ∀ k h, ([(1, 13), (0, 17)] : List (Nat × Nat)).lookup k = some h → z_hx (z_ow 15) (z_mi 311).2.2.2.2.2 5 k h := by
  intro k h hk
  have hm := z_lookup_mem hk
  simp only [List.mem_cons, List.not_mem_nil, or_false, Prod.mk.injEq] at hm
  rcases hm with ⟨rfl, rfl⟩ | ⟨rfl, rfl⟩
  · exact ⟨[], ⟨0, 10, 13, 25⟩, [⟨0, 10, 17, 13⟩], rfl, rfl, by decide, by decide, z_c_ok _ (List.mem_of_getElem? (i := 16) rfl), z_cas1, fun z hz => nomatch hz⟩
  · exact ⟨[⟨0, 10, 13, 25⟩], ⟨0, 10, 17, 13⟩, [], rfl, rfl, by decide, by decide, z_c_ok _ (List.mem_of_getElem? (i := 14) rfl), z_cas0, fun z hz => by
    rcases List.mem_singleton.mp hz with rfl
    exact ⟨by decide, 1, z_c_ok _ (List.mem_of_getElem? (i := 16) rfl), Or.inl ⟨rfl, Or.inl rfl⟩⟩⟩
set_option maxRecDepth 100000 in
theorem z_gm_311 {mt : Nat → z_Md} (h : mt 311 = z_md_311) : z_gm z_mi mt 311 := z_okB_ok (o := 15) (vp := 5) (md := (false, [(1, 13), (0, 17)], 5)) (bl := z_B_311) h (fun _ => z_hx_311) (by decide +kernel)
/-- LacedHolesLaw.seen(LLacedHoles;[J)I -/
def z_B_312 : z_Bk := [(0, [true, true, false], [(.aload_n 1, 0, 0, 0, 0), (.iconst 0, 1, 0, 0, 0), (.aload_n 0, 2, 0, 0, 0), (.invokevirtual 63, 3, 160, 0, 3850), (.i2l, 6, 0, 0, 0), (.lastore, 7, 0, 0, 0), (.goto 6, 8, 0, 0, 0)], 11),
  (11, [false, false, false], [(.astore_n 2, 11, 0, 0, 0), (.iconst 1, 12, 0, 0, 0), (.ireturn, 13, 0, 0, 0)], 14),
  (14, [false, false, false], [(.iconst 0, 14, 0, 0, 0), (.ireturn, 15, 0, 0, 0)], 16)]
def z_md_312 : z_Md := (false, [(2, 11)], (fun t => z_B_312.lookup t), 3)
set_option maxRecDepth 100000 in
theorem z_hx_312 : ∀ k h, ([(2, 11)] : List (Nat × Nat)).lookup k = some h → z_hx (z_ow 15) (z_mi 312).2.2.2.2.2 3 k h := by
  intro k h hk
  have hm := z_lookup_mem hk
  simp only [List.mem_cons, List.not_mem_nil, or_false, Prod.mk.injEq] at hm
  obtain ⟨rfl, rfl⟩ := hm
  exact ⟨[], ⟨0, 8, 11, 31⟩, [], rfl, rfl, by decide, by decide, z_c_ok _ (List.mem_of_getElem? (i := 18) rfl), z_cas2, fun z hz => nomatch hz⟩
set_option maxRecDepth 100000 in
theorem z_gm_312 {mt : Nat → z_Md} (h : mt 312 = z_md_312) : z_gm z_mi mt 312 := z_okB_ok (o := 15) (vp := 3) (md := (false, [(2, 11)], 3)) (bl := z_B_312) h (fun _ => z_hx_312) (by decide +kernel)
/-- LacedHolesLaw.knot(LLacedHoles;II[J)I -/
def z_B_313 : z_Bk := [(0, [true, true, true, true, false], [(.aload_n 3, 0, 0, 0, 0), (.iconst 0, 1, 0, 0, 0), (.aload_n 0, 2, 0, 0, 0), (.iload_n 1, 3, 0, 0, 0), (.iload_n 2, 4, 0, 0, 0), (.invokevirtual 66, 5, 161, 2, 3946), (.i2l, 8, 0, 0, 0), (.lastore, 9, 0, 0, 0), (.goto 11, 10, 0, 0, 0)], 13),
  (13, [false, false, false, false, false], [(.astore 4, 13, 0, 0, 0), (.iconst 1, 15, 0, 0, 0), (.ireturn, 16, 0, 0, 0)], 17),
  (17, [false, false, false, false, false], [(.astore 4, 17, 0, 0, 0), (.iconst 2, 19, 0, 0, 0), (.ireturn, 20, 0, 0, 0)], 21),
  (21, [false, false, false, false, false], [(.iconst 0, 21, 0, 0, 0), (.ireturn, 22, 0, 0, 0)], 23)]
def z_md_313 : z_Md := (false, [(2, 13), (0, 17)], (fun t => z_B_313.lookup t), 5)
set_option maxRecDepth 100000 in
theorem z_hx_313 : ∀ k h, ([(2, 13), (0, 17)] : List (Nat × Nat)).lookup k = some h → z_hx (z_ow 15) (z_mi 313).2.2.2.2.2 5 k h := by
  intro k h hk
  have hm := z_lookup_mem hk
  simp only [List.mem_cons, List.not_mem_nil, or_false, Prod.mk.injEq] at hm
  rcases hm with ⟨rfl, rfl⟩ | ⟨rfl, rfl⟩
  · exact ⟨[], ⟨0, 10, 13, 31⟩, [⟨0, 10, 17, 13⟩], rfl, rfl, by decide, by decide, z_c_ok _ (List.mem_of_getElem? (i := 18) rfl), z_cas2, fun z hz => nomatch hz⟩
  · exact ⟨[⟨0, 10, 13, 31⟩], ⟨0, 10, 17, 13⟩, [], rfl, rfl, by decide, by decide, z_c_ok _ (List.mem_of_getElem? (i := 14) rfl), z_cas0, fun z hz => by
    rcases List.mem_singleton.mp hz with rfl
    exact ⟨by decide, 2, z_c_ok _ (List.mem_of_getElem? (i := 18) rfl), Or.inl ⟨rfl, Or.inr rfl⟩⟩⟩
set_option maxRecDepth 100000 in
theorem z_gm_313 {mt : Nat → z_Md} (h : mt 313 = z_md_313) : z_gm z_mi mt 313 := z_okB_ok (o := 15) (vp := 5) (md := (false, [(2, 13), (0, 17)], 5)) (bl := z_B_313) h (fun _ => z_hx_313) (by decide +kernel)
/-- LacedHolesLaw.wear(LLacedHoles;I[J)I -/
def z_B_314 : z_Bk := [(0, [true, true, true, false], [(.aload_n 2, 0, 0, 0, 0), (.iconst 0, 1, 0, 0, 0), (.aload_n 0, 2, 0, 0, 0), (.iload_n 1, 3, 0, 0, 0), (.invokevirtual 69, 4, 162, 1, 4010), (.i2l, 7, 0, 0, 0), (.lastore, 8, 0, 0, 0), (.goto 9, 9, 0, 0, 0)], 12),
  (12, [false, false, false, false], [(.astore_n 3, 12, 0, 0, 0), (.iconst 1, 13, 0, 0, 0), (.ireturn, 14, 0, 0, 0)], 15),
  (15, [false, false, false, false], [(.astore_n 3, 15, 0, 0, 0), (.iconst 2, 16, 0, 0, 0), (.ireturn, 17, 0, 0, 0)], 18),
  (18, [false, false, false, false], [(.iconst 0, 18, 0, 0, 0), (.ireturn, 19, 0, 0, 0)], 20)]
def z_md_314 : z_Md := (false, [(1, 12), (2, 15)], (fun t => z_B_314.lookup t), 4)
set_option maxRecDepth 100000 in
theorem z_hx_314 : ∀ k h, ([(1, 12), (2, 15)] : List (Nat × Nat)).lookup k = some h → z_hx (z_ow 15) (z_mi 314).2.2.2.2.2 4 k h := by
  intro k h hk
  have hm := z_lookup_mem hk
  simp only [List.mem_cons, List.not_mem_nil, or_false, Prod.mk.injEq] at hm
  rcases hm with ⟨rfl, rfl⟩ | ⟨rfl, rfl⟩
  · exact ⟨[], ⟨0, 9, 12, 25⟩, [⟨0, 9, 15, 31⟩], rfl, rfl, by decide, by decide, z_c_ok _ (List.mem_of_getElem? (i := 16) rfl), z_cas1, fun z hz => nomatch hz⟩
  · exact ⟨[⟨0, 9, 12, 25⟩], ⟨0, 9, 15, 31⟩, [], rfl, rfl, by decide, by decide, z_c_ok _ (List.mem_of_getElem? (i := 18) rfl), z_cas2, fun z hz => by
    rcases List.mem_singleton.mp hz with rfl
    exact ⟨by decide, 1, z_c_ok _ (List.mem_of_getElem? (i := 16) rfl), Or.inr ⟨rfl, rfl⟩⟩⟩
set_option maxRecDepth 100000 in
theorem z_gm_314 {mt : Nat → z_Md} (h : mt 314 = z_md_314) : z_gm z_mi mt 314 := z_okB_ok (o := 15) (vp := 4) (md := (false, [(1, 12), (2, 15)], 4)) (bl := z_B_314) h (fun _ => z_hx_314) (by decide +kernel)
/-- LacedHolesLaw.keep(LLacedHoles;[J)I -/
def z_B_315 : z_Bk := [(0, [true, true, false], [(.aload_n 1, 0, 0, 0, 0), (.iconst 0, 1, 0, 0, 0), (.aload_n 0, 2, 0, 0, 0), (.invokevirtual 72, 3, 163, 0, 4058), (.i2l, 6, 0, 0, 0), (.lastore, 7, 0, 0, 0), (.goto 6, 8, 0, 0, 0)], 11),
  (11, [false, false, false], [(.astore_n 2, 11, 0, 0, 0), (.iconst 1, 12, 0, 0, 0), (.ireturn, 13, 0, 0, 0)], 14),
  (14, [false, false, false], [(.iconst 0, 14, 0, 0, 0), (.ireturn, 15, 0, 0, 0)], 16)]
def z_md_315 : z_Md := (false, [(2, 11)], (fun t => z_B_315.lookup t), 3)
set_option maxRecDepth 100000 in
theorem z_hx_315 : ∀ k h, ([(2, 11)] : List (Nat × Nat)).lookup k = some h → z_hx (z_ow 15) (z_mi 315).2.2.2.2.2 3 k h := by
  intro k h hk
  have hm := z_lookup_mem hk
  simp only [List.mem_cons, List.not_mem_nil, or_false, Prod.mk.injEq] at hm
  obtain ⟨rfl, rfl⟩ := hm
  exact ⟨[], ⟨0, 8, 11, 31⟩, [], rfl, rfl, by decide, by decide, z_c_ok _ (List.mem_of_getElem? (i := 18) rfl), z_cas2, fun z hz => nomatch hz⟩
set_option maxRecDepth 100000 in
theorem z_gm_315 {mt : Nat → z_Md} (h : mt 315 = z_md_315) : z_gm z_mi mt 315 := z_okB_ok (o := 15) (vp := 3) (md := (false, [(2, 11)], 3)) (bl := z_B_315) h (fun _ => z_hx_315) (by decide +kernel)
/-- LacedHolesLaw.weeks(LLacedHoles;II[J)I -/
def z_B_316 : z_Bk := [(0, [true, true, true, true, false], [(.aload_n 3, 0, 0, 0, 0), (.iconst 0, 1, 0, 0, 0), (.aload_n 0, 2, 0, 0, 0), (.iload_n 1, 3, 0, 0, 0), (.iload_n 2, 4, 0, 0, 0), (.invokevirtual 75, 5, 165, 2, 4122), (.i2l, 8, 0, 0, 0), (.lastore, 9, 0, 0, 0), (.goto 7, 10, 0, 0, 0)], 13),
  (13, [false, false, false, false, false], [(.astore 4, 13, 0, 0, 0), (.iconst 1, 15, 0, 0, 0), (.ireturn, 16, 0, 0, 0)], 17),
  (17, [false, false, false, false, false], [(.iconst 0, 17, 0, 0, 0), (.ireturn, 18, 0, 0, 0)], 19)]
def z_md_316 : z_Md := (false, [(0, 13)], (fun t => z_B_316.lookup t), 5)
set_option maxRecDepth 100000 in
theorem z_hx_316 : ∀ k h, ([(0, 13)] : List (Nat × Nat)).lookup k = some h → z_hx (z_ow 15) (z_mi 316).2.2.2.2.2 5 k h := by
  intro k h hk
  have hm := z_lookup_mem hk
  simp only [List.mem_cons, List.not_mem_nil, or_false, Prod.mk.injEq] at hm
  obtain ⟨rfl, rfl⟩ := hm
  exact ⟨[], ⟨0, 10, 13, 13⟩, [], rfl, rfl, by decide, by decide, z_c_ok _ (List.mem_of_getElem? (i := 14) rfl), z_cas0, fun z hz => nomatch hz⟩
set_option maxRecDepth 100000 in
theorem z_gm_316 {mt : Nat → z_Md} (h : mt 316 = z_md_316) : z_gm z_mi mt 316 := z_okB_ok (o := 15) (vp := 5) (md := (false, [(0, 13)], 5)) (bl := z_B_316) h (fun _ => z_hx_316) (by decide +kernel)
