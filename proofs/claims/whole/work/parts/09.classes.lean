/-! ===== what the tables say of the classes whose objects the world holds ===== -/
theorem z_tw {w : Jvm.Cond} (j : Nat) (h : tables_1[j]? = some w) (hg : goodWord w = true) : w ∈ z_W0 := List.mem_filter.mpr ⟨List.mem_append_right _ (List.mem_of_getElem? h), hg⟩
def z_Cl (c : Nat) (C : String) (T : u_T) (N : Nat) : Prop := z_FN c = N ∧ (∀ w ∈ u_ws C T N, w ∈ z_W0) ∧ (∀ a, a < N → ∀ b, b < N → a ≠ b → (T a).2.1 ≠ (T b).2.1) ∧ ∃ ty : Nat → FieldType, (∀ k, k < N → parseFieldDescriptor (T k).2.2.1 = some (ty k)) ∧ ∀ k, k < N → (z_FT c k = 0 ∧ (ty k).isReference = true) ∨ (z_FT c k = 1 ∧ ty k = .int) ∨ (z_FT c k = 2 ∧ ty k = .boolean)
theorem z_lays {C : String} {T : u_T} {N : Nat} (pl : List Nat) (h : (List.range N).all (fun k => decide (tables_1[pl.getD k 0]? = some (u_lay C T k)) && goodWord (u_lay C T k)) = true) : ∀ w ∈ u_ws C T N, w ∈ z_W0 := by
  intro w hw
  obtain ⟨k, hk, rfl⟩ := List.mem_map.mp hw
  have h1 := List.all_eq_true.mp h k hk
  simp only [Bool.and_eq_true, decide_eq_true_eq] at h1
  exact z_tw _ h1.1 h1.2
set_option maxRecDepth 100000 in
theorem z_cl_0 : z_Cl 0 RX0 TX0 7 := ⟨rfl, z_lays [263, 265, 267, 269, 271, 273, 275] (by decide +kernel), nmX0, tyX0, tyX0_ok, by decide +kernel⟩
set_option maxRecDepth 100000 in
theorem z_cl_1 : z_Cl 1 RX1 TX1 5 := ⟨rfl, z_lays [91, 93, 95, 97, 99] (by decide +kernel), nmX1, tyX1, tyX1_ok, by decide +kernel⟩
set_option maxRecDepth 100000 in
theorem z_cl_2 : z_Cl 2 RX2 TX2 7 := ⟨rfl, z_lays [116, 118, 120, 122, 124, 126, 128] (by decide +kernel), nmX2, tyX2, tyX2_ok, by decide +kernel⟩
set_option maxRecDepth 100000 in
theorem z_cl_3 : z_Cl 3 RX3 TX3 3 := ⟨rfl, z_lays [168, 170, 172] (by decide +kernel), nmX3, tyX3, tyX3_ok, by decide +kernel⟩
set_option maxRecDepth 100000 in
theorem z_cl_4 : z_Cl 4 RX4 TX4 3 := ⟨rfl, z_lays [72, 74, 76] (by decide +kernel), nmX4, tyX4, tyX4_ok, by decide +kernel⟩
set_option maxRecDepth 100000 in
theorem z_cl_5 : z_Cl 5 RX6 TX6 4 := ⟨rfl, z_lays [229, 231, 233, 235] (by decide +kernel), nmX6, tyX6, tyX6_ok, by decide +kernel⟩
set_option maxRecDepth 100000 in
theorem z_cl_6 : z_Cl 6 RX7 TX7 7 := ⟨rfl, z_lays [47, 49, 51, 53, 55, 57, 59] (by decide +kernel), nmX7, tyX7, tyX7_ok, by decide +kernel⟩
set_option maxRecDepth 100000 in
theorem z_cl_7 : z_Cl 7 RX8 TX8 5 := ⟨rfl, z_lays [180, 182, 184, 186, 188] (by decide +kernel), nmX8, tyX8, tyX8_ok, by decide +kernel⟩
set_option maxRecDepth 100000 in
theorem z_cl_8 : z_Cl 8 RX9 TX9 2 := ⟨rfl, z_lays [151, 153] (by decide +kernel), nmX9, tyX9, tyX9_ok, by decide +kernel⟩
set_option maxRecDepth 100000 in
theorem z_cl_9 : z_Cl 9 RX10 TX10 3 := ⟨rfl, z_lays [202, 204, 206] (by decide +kernel), nmX10, tyX10, tyX10_ok, by decide +kernel⟩
set_option maxRecDepth 100000 in
theorem z_cl_10 : z_Cl 10 RX11 TX11 13 := ⟨rfl, z_lays [308, 310, 312, 314, 316, 318, 320, 322, 324, 326, 328, 330, 332] (by decide +kernel), nmX11, tyX11, tyX11_ok, by decide +kernel⟩
set_option maxRecDepth 100000 in
theorem z_cl_11 : z_Cl 11 RX12 TX12 47 := ⟨rfl, z_lays [1348, 1350, 1352, 1354, 1356, 1358, 1360, 1362, 1364, 1366, 1368, 1370, 1372, 1374, 1376, 1378, 1380, 1382, 1384, 1386, 1388, 1390, 1392, 1394, 1396, 1398, 1400, 1402, 1404, 1406, 1408, 1410, 1412, 1414, 1416, 1418, 1420, 1422, 1424, 1426, 1428, 1430, 1432, 1434, 1436, 1438, 1440] (by decide +kernel), nmX12, tyX12, tyX12_ok, by decide +kernel⟩
theorem z_cls : ∀ (c : Nat) (C : String) (T : u_T) (N : Nat), vwCl[c]? = some (C, T, N) → z_Cl c C T N := by
  intro c C T N h
  match c, h with
  | 0, h => cases h; exact z_cl_0
  | 1, h => cases h; exact z_cl_1
  | 2, h => cases h; exact z_cl_2
  | 3, h => cases h; exact z_cl_3
  | 4, h => cases h; exact z_cl_4
  | 5, h => cases h; exact z_cl_5
  | 6, h => cases h; exact z_cl_6
  | 7, h => cases h; exact z_cl_7
  | 8, h => cases h; exact z_cl_8
  | 9, h => cases h; exact z_cl_9
  | 10, h => cases h; exact z_cl_10
  | 11, h => cases h; exact z_cl_11
  | n + 12, h => simp [vwCl] at h
theorem z_isref {ty : FieldType} (h : ty.isReference = true) : defaultValue ty = .null ∧ ∀ a, narrow ty (.ref a) = .ref a ∧ fits ty (.ref a) = true := by
  cases ty <;> first | exact ⟨rfl, fun a => ⟨rfl, rfl⟩⟩ | cases h
