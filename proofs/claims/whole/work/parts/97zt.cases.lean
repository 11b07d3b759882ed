/-! ===== the law's cases ===== -/
section Cases
variable {sp : Nat → Nat} {d : Nat} {m m1 m2 : y_m} {i : Int}
theorem e_lc0 {x : Int} : z_w (z_lcmp x x) = 0 := by
  unfold z_lcmp lg_cmp
  rw [if_neg (fun q => by have := Int64.lt_iff_toInt_lt.mp q; omega), if_pos rfl]; rfl
theorem e_sv (k : Nat) : -2147483648 ≤ z_sv sp k ∧ z_sv sp k < 2147483648 := by
  unfold z_sv
  have h1 := Int32.le_toInt (Int32.ofNat (sp (600002 + k)))
  have h2 := Int32.toInt_lt (Int32.ofNat (sp (600002 + k)))
  omega
theorem e_lor (x y : Int) : -9223372036854775808 ≤ z_lor x y ∧ z_lor x y < 9223372036854775808 := by
  unfold z_lor
  have h1 := Int64.le_toInt (Int64.ofInt x ||| Int64.ofInt y)
  have h2 := Int64.toInt_lt (Int64.ofInt x ||| Int64.ofInt y)
  omega
def x_st (m : y_m) (s : x_St) : Prop := x_C m s ∧ x_R m s ∧ x_W1 s
def x_go (sp : Nat → Nat) (d : Nat) (i : Int) (pc : Nat) (m : y_m) : Prop := ∃ m2 s', y_R sp true (d + 31) 317 pc [some (y_bo 105 0 600000), some (y_bo 10 0 0), some (y_bo 11 0 49), some (y_bo 101 1 105), some (y_bi i), none, none, none] [] m = y_R sp true (d + 31) 317 1577 [some (y_bo 105 0 600000), some (y_bo 10 0 0), some (y_bo 11 0 49), some (y_bo 101 1 105), some (y_bi i), none, none, none] [] m2 ∧ x_st m2 s' ∧ m2.1 ≤ m.1 + 2 ∧ m2.2.1 ≤ m.2.1 + 13
theorem x_lA {mk : Int → z_Av} {D jc jr : Nat} {As : List y_Bv} {s : x_St} (h : x_ok sp D D mk jc jr As [] m s) (hR : x_R m s) (hW : x_W1 s) : ∃ v m1 m2 s', y_V sp true D jc (y_bo 10 0 0 :: As) m = some (.inl (some (mk v)), m1) ∧ y_V sp true D jr (y_bo 11 0 49 :: As) m1 = some (.inl (some (mk v)), m2) ∧ x_st m2 s' ∧ m2.1 ≤ m.1 + 2 ∧ m2.2.1 ≤ m.2.1 + 13 := by
  obtain ⟨s', hW', ⟨v, ⟨m1, c1, c2, c3⟩, r⟩ | ⟨e, k, v, hm, -⟩⟩ := h
  · obtain ⟨m2, r1, r2, r3, r4⟩ := r m1 (x_Rf_k hR hW c3.1)
    have a1 := c3.2.1
    have a2 := c3.2.2
    have a3 := r3.2.2.1
    have a4 := r3.2.2.2
    exact ⟨v, m1, m2, s', c1, r1, ⟨x_Cl_k c2 hW' r3.1, r2, hW'⟩, by omega, by omega⟩
  · cases hm
theorem x_lB {mk : Int → z_Av} {D E jc jr : Nat} {As : List y_Bv} {lk : List (Nat × Int)} {s : x_St} (Z : Int → Int) (h : x_ok sp D E mk jc jr As lk m s) (hR : x_R m s) (hW : x_W1 s) : (∃ v m1 m2 s', y_V sp true D jc (y_bo 10 0 0 :: As) m = some (.inl (some (mk v)), m1) ∧ y_V sp true E jr (y_bo 11 0 49 :: As) (y_sJ m1 105 0 (Z v)) = some (.inl (some (mk v)), m2) ∧ y_mI m2 49 0 = 0 ∧ y_mJ m2 105 0 = Z v ∧ x_st m2 s' ∧ m2.1 ≤ m.1 + 2 ∧ m2.2.1 ≤ m.2.1 + 13) ∨ ∃ e k v m1 m2 s', (e, k) ∈ lk ∧ y_V sp true D jc (y_bo 10 0 0 :: As) m = some (.inr e, m1) ∧ y_V sp true E jr (y_bo 11 0 49 :: As) m1 = some (.inl (some (mk v)), m2) ∧ y_mI m2 49 0 = k ∧ x_st m2 s' ∧ m2.1 ≤ m.1 + 2 ∧ m2.2.1 ≤ m.2.1 + 13 := by
  obtain ⟨s', hW', ⟨v, ⟨m1, c1, c2, c3⟩, r⟩ | ⟨e, k, v, hm, hk, ⟨m1, c1, c2, c3⟩, r⟩⟩ := h
  · have F : q_F (fun a _ => a = 105) m1 (y_sJ m1 105 0 (Z v)) := q_F_sJ rfl
    have hF := x_cF_trans c3.1 (x_cF_q F (fun a k q => by omega))
    obtain ⟨m2, r1, r2, r3, r4⟩ := r (y_sJ m1 105 0 (Z v)) (x_Rf_k hR hW hF)
    have a1 := c3.2.1
    have a2 := c3.2.2
    have a3 : m2.1 ≤ m1.1 + 1 := r3.2.2.1
    have a4 : m2.2.1 ≤ m1.2.1 + 7 := r3.2.2.2
    have hC2 : x_C (y_sJ m1 105 0 (Z v)) s' := x_Cl_k c2 hW' (x_rF_q F (fun a k q => by omega))
    exact Or.inl ⟨v, m1, m2, s', c1, r1, r4, by rw [r3.2.1, e_JJ], ⟨x_Cl_k hC2 hW' r3.1, r2, hW'⟩, by omega, by omega⟩
  · obtain ⟨m2, r1, r2, r3, r4⟩ := r m1 (x_Rf_k hR hW c3.1)
    have a1 := c3.2.1
    have a2 := c3.2.2
    have a3 := r3.2.2.1
    have a4 := r3.2.2.2
    exact Or.inr ⟨e, k, v, m1, m2, s', hm, c1, r1, r4, ⟨x_Cl_k c2 hW' r3.1, r2, hW'⟩, by omega, by omega⟩
theorem x_178 {D : Nat} {z : Int} (h : y_mI m 49 0 = z) : y_V sp true (D + 1) 178 [y_bo 11 0 49] m = y_rI z m := by rw [y_C_178, y_E_178_0, h]
theorem x_q192 {s : x_St} (hst : x_st m s) (hg : ∀ k : Int, 0 ≤ k → k ≤ 5 → 0 ≤ i + k ∧ i + k < (sp 600001 : Int) ∧ sp 600001 ≤ 1000000) : x_go sp d i 192 m := by
  obtain ⟨⟨L, R, A, B, t, lw, X⟩, w, f, N, q, P, K, G⟩ := s
  obtain ⟨hC, hR, hW⟩ := hst
  obtain ⟨v, m1, m2, s', c, r, st, n1, n2⟩ := x_lA (x_136 (sp := sp) (d := d + 1) (x1 := z_sv sp (i + 1).toNat) (x2 := z_sv sp (i + 2).toNat) (x3 := z_sv sp (i + 3).toNat) (x4 := z_sv sp (i + 4).toNat) (x5 := z_sv sp (i + 5).toNat) hC hW) hR hW
  have c' : y_V sp true (d + 31) 136 [y_bo 10 0 0, y_bi (z_sv sp (i + 1).toNat), y_bi (z_sv sp (i + 2).toNat), y_bi (z_sv sp (i + 3).toNat), y_bi (z_sv sp (i + 4).toNat), y_bi (z_sv sp (i + 5).toNat)] m = y_rI v m1 := c
  have r' : y_V sp true (d + 31) 181 [y_bo 11 0 49, y_bi (z_sv sp (i + 1).toNat), y_bi (z_sv sp (i + 2).toNat), y_bi (z_sv sp (i + 3).toNat), y_bi (z_sv sp (i + 4).toNat), y_bi (z_sv sp (i + 5).toNat)] m1 = y_rI v m2 := r
  exact ⟨m2, s', by rw [y_E_317_192, e_g (hg 1 (by decide) (by decide)), e_g (hg 2 (by decide) (by decide)), e_g (hg 3 (by decide) (by decide)), e_g (hg 4 (by decide) (by decide)), e_g (hg 5 (by decide) (by decide)), c', e_bI, e_g (hg 1 (by decide) (by decide)), e_g (hg 2 (by decide) (by decide)), e_g (hg 3 (by decide) (by decide)), e_g (hg 4 (by decide) (by decide)), e_g (hg 5 (by decide) (by decide)), r', e_bI, if_pos rfl], st, n1, n2⟩
theorem x_q265 (okv : v_Ok) {s : x_St} (hst : x_st m s) (hg : ∀ k : Int, 0 ≤ k → k ≤ 5 → 0 ≤ i + k ∧ i + k < (sp 600001 : Int) ∧ sp 600001 ≤ 1000000) : x_go sp d i 265 m := by
  obtain ⟨⟨L, R, A, B, t, lw, X⟩, w, f, N, q, P, K, G⟩ := s
  obtain ⟨hC, hR, hW⟩ := hst
  rcases x_lB z_w (x_137 (sp := sp) (d := d) okv hC hW (e_sv _).1 (e_sv _).2) hR hW with ⟨v, m1, m2, s', c, r, z0, zJ, st, n1, n2⟩ | ⟨e, k, v, m1, m2, s', hm, c, r, z0, st, n1, n2⟩
  · have c' : y_V sp true (d + 30) 137 [y_bo 10 0 0, y_bi (z_sv sp (i + 1).toNat)] m = y_rI v m1 := c
    have r' : y_V sp true (d + 31) 193 [y_bo 11 0 49, y_bi (z_sv sp (i + 1).toNat)] (y_sJ m1 105 0 (z_w v)) = y_rI v m2 := r
    have zJ' : y_mJ m2 105 0 = (z_w v) := zJ
    have wv : y_V sp true (d + 31) 298 [y_bo 10 0 0, y_bi (z_sv sp (i + 1).toNat), y_bo 101 1 105] m = y_rI 0 (y_sJ m1 105 0 (z_w v)) := by rw [y_C_298, y_E_298_0, c', e_bI, e_g (by decide), y_E_298_15]
    exact ⟨m2, s', by rw [y_E_317_265, e_g (hg 1 (by decide) (by decide)), wv, e_bI, e_g (hg 1 (by decide) (by decide)), r', e_bI, x_178 (D := d + 30) z0, e_bI, if_pos rfl, y_E_317_301, if_neg (fun z => z (by decide)), zJ', e_lc0, if_pos rfl, y_E_317_318], st, n1, n2⟩
  · have r' : y_V sp true (d + 31) 193 [y_bo 11 0 49, y_bi (z_sv sp (i + 1).toNat)] m1 = y_rI v m2 := r
    have fin : k ≠ 0 → y_V sp true (d + 31) 298 [y_bo 10 0 0, y_bi (z_sv sp (i + 1).toNat), y_bo 101 1 105] m = y_rI k m1 → (-5 ≤ k ∧ k ≤ 5) → x_go sp d i 265 m := fun hk wv hk5 => ⟨m2, s', by rw [y_E_317_265, e_g (hg 1 (by decide) (by decide)), wv, e_bI, e_g (hg 1 (by decide) (by decide)), r', e_bI, x_178 (D := d + 30) z0, e_bI, if_pos rfl, y_E_317_301, if_pos (by rw [z_w_id (by omega) (by omega)]; exact hk), y_E_317_318], st, n1, n2⟩
    simp only [List.mem_cons, List.not_mem_nil, or_false, Prod.mk.injEq] at hm
    obtain ⟨rfl, rfl⟩ := hm
    have c' : y_V sp true (d + 30) 137 [y_bo 10 0 0, y_bi (z_sv sp (i + 1).toNat)] m = some (.inr 0, m1) := c
    refine fin (by decide) ?_ (by decide)
    rw [y_C_298, y_E_298_0, c', e_bIx]
    exact y_E_298_12 (d + 30) 0 m1
theorem x_q321 {s : x_St} (hst : x_st m s) (hg : ∀ k : Int, 0 ≤ k → k ≤ 5 → 0 ≤ i + k ∧ i + k < (sp 600001 : Int) ∧ sp 600001 ≤ 1000000) : x_go sp d i 321 m := by
  obtain ⟨⟨L, R, A, B, t, lw, X⟩, w, f, N, q, P, K, G⟩ := s
  obtain ⟨hC, hR, hW⟩ := hst
  rcases x_lB z_w (x_138 (sp := sp) (d := d) hC hW (e_sv _).1 (e_sv _).2) hR hW with ⟨v, m1, m2, s', c, r, z0, zJ, st, n1, n2⟩ | ⟨e, k, v, m1, m2, s', hm, c, r, z0, st, n1, n2⟩
  · have c' : y_V sp true (d + 30) 138 [y_bo 10 0 0, y_bi (z_sv sp (i + 1).toNat)] m = y_rI v m1 := c
    have r' : y_V sp true (d + 31) 195 [y_bo 11 0 49, y_bi (z_sv sp (i + 1).toNat)] (y_sJ m1 105 0 (z_w v)) = y_rI v m2 := r
    have zJ' : y_mJ m2 105 0 = (z_w v) := zJ
    have wv : y_V sp true (d + 31) 299 [y_bo 10 0 0, y_bi (z_sv sp (i + 1).toNat), y_bo 101 1 105] m = y_rI 0 (y_sJ m1 105 0 (z_w v)) := by rw [y_C_299, y_E_299_0, c', e_bI, e_g (by decide), y_E_299_15]
    exact ⟨m2, s', by rw [y_E_317_321, e_g (hg 1 (by decide) (by decide)), wv, e_bI, e_g (hg 1 (by decide) (by decide)), r', e_bI, x_178 (D := d + 30) z0, e_bI, if_pos rfl, y_E_317_357, if_neg (fun z => z (by decide)), zJ', e_lc0, if_pos rfl, y_E_317_374], st, n1, n2⟩
  · have r' : y_V sp true (d + 31) 195 [y_bo 11 0 49, y_bi (z_sv sp (i + 1).toNat)] m1 = y_rI v m2 := r
    have fin : k ≠ 0 → y_V sp true (d + 31) 299 [y_bo 10 0 0, y_bi (z_sv sp (i + 1).toNat), y_bo 101 1 105] m = y_rI k m1 → (-5 ≤ k ∧ k ≤ 5) → x_go sp d i 321 m := fun hk wv hk5 => ⟨m2, s', by rw [y_E_317_321, e_g (hg 1 (by decide) (by decide)), wv, e_bI, e_g (hg 1 (by decide) (by decide)), r', e_bI, x_178 (D := d + 30) z0, e_bI, if_pos rfl, y_E_317_357, if_pos (by rw [z_w_id (by omega) (by omega)]; exact hk), y_E_317_374], st, n1, n2⟩
    simp only [List.mem_cons, List.not_mem_nil, or_false, Prod.mk.injEq] at hm
    obtain ⟨rfl, rfl⟩ := hm
    have c' : y_V sp true (d + 30) 138 [y_bo 10 0 0, y_bi (z_sv sp (i + 1).toNat)] m = some (.inr 0, m1) := c
    refine fin (by decide) ?_ (by decide)
    rw [y_C_299, y_E_299_0, c', e_bIx]
    exact y_E_299_12 (d + 30) 0 m1
theorem x_q377 {s : x_St} (hst : x_st m s) (hg : ∀ k : Int, 0 ≤ k → k ≤ 5 → 0 ≤ i + k ∧ i + k < (sp 600001 : Int) ∧ sp 600001 ≤ 1000000) : x_go sp d i 377 m := by
  obtain ⟨⟨L, R, A, B, t, lw, X⟩, w, f, N, q, P, K, G⟩ := s
  obtain ⟨hC, hR, hW⟩ := hst
  obtain ⟨v, m1, m2, s', c, r, st, n1, n2⟩ := x_lA (x_139 (sp := sp) (d := d + 1) hC hW) hR hW
  have c' : y_V sp true (d + 31) 139 [y_bo 10 0 0] m = y_rI v m1 := c
  have r' : y_V sp true (d + 31) 197 [y_bo 11 0 49] m1 = y_rI v m2 := r
  exact ⟨m2, s', by rw [y_E_317_377, c', e_bI, r', e_bI, if_pos rfl], st, n1, n2⟩
theorem x_q390 {s : x_St} (hst : x_st m s) (hg : ∀ k : Int, 0 ≤ k → k ≤ 5 → 0 ≤ i + k ∧ i + k < (sp 600001 : Int) ∧ sp 600001 ≤ 1000000) : x_go sp d i 390 m := by
  obtain ⟨⟨L, R, A, B, t, lw, X⟩, w, f, N, q, P, K, G⟩ := s
  obtain ⟨hC, hR, hW⟩ := hst
  rcases x_lB z_w (x_140 (sp := sp) (d := d) hC hW (e_sv _).1 (e_sv _).2) hR hW with ⟨v, m1, m2, s', c, r, z0, zJ, st, n1, n2⟩ | ⟨e, k, v, m1, m2, s', hm, c, r, z0, st, n1, n2⟩
  · have c' : y_V sp true (d + 30) 140 [y_bo 10 0 0, y_bi (z_sv sp (i + 1).toNat)] m = y_rI v m1 := c
    have r' : y_V sp true (d + 31) 198 [y_bo 11 0 49, y_bi (z_sv sp (i + 1).toNat)] (y_sJ m1 105 0 (z_w v)) = y_rI v m2 := r
    have zJ' : y_mJ m2 105 0 = (z_w v) := zJ
    have wv : y_V sp true (d + 31) 300 [y_bo 10 0 0, y_bi (z_sv sp (i + 1).toNat), y_bo 101 1 105] m = y_rI 0 (y_sJ m1 105 0 (z_w v)) := by rw [y_C_300, y_E_300_0, c', e_bI, e_g (by decide), y_E_300_15]
    exact ⟨m2, s', by rw [y_E_317_390, e_g (hg 1 (by decide) (by decide)), wv, e_bI, e_g (hg 1 (by decide) (by decide)), r', e_bI, x_178 (D := d + 30) z0, e_bI, if_pos rfl, y_E_317_426, if_neg (fun z => z (by decide)), zJ', e_lc0, if_pos rfl, y_E_317_443], st, n1, n2⟩
  · have r' : y_V sp true (d + 31) 198 [y_bo 11 0 49, y_bi (z_sv sp (i + 1).toNat)] m1 = y_rI v m2 := r
    have fin : k ≠ 0 → y_V sp true (d + 31) 300 [y_bo 10 0 0, y_bi (z_sv sp (i + 1).toNat), y_bo 101 1 105] m = y_rI k m1 → (-5 ≤ k ∧ k ≤ 5) → x_go sp d i 390 m := fun hk wv hk5 => ⟨m2, s', by rw [y_E_317_390, e_g (hg 1 (by decide) (by decide)), wv, e_bI, e_g (hg 1 (by decide) (by decide)), r', e_bI, x_178 (D := d + 30) z0, e_bI, if_pos rfl, y_E_317_426, if_pos (by rw [z_w_id (by omega) (by omega)]; exact hk), y_E_317_443], st, n1, n2⟩
    simp only [List.mem_cons, List.not_mem_nil, or_false, Prod.mk.injEq] at hm
    obtain ⟨rfl, rfl⟩ := hm
    have c' : y_V sp true (d + 30) 140 [y_bo 10 0 0, y_bi (z_sv sp (i + 1).toNat)] m = some (.inr 0, m1) := c
    refine fin (by decide) ?_ (by decide)
    rw [y_C_300, y_E_300_0, c', e_bIx]
    exact y_E_300_12 (d + 30) 0 m1
theorem x_q446 {s : x_St} (hst : x_st m s) (hg : ∀ k : Int, 0 ≤ k → k ≤ 5 → 0 ≤ i + k ∧ i + k < (sp 600001 : Int) ∧ sp 600001 ≤ 1000000) : x_go sp d i 446 m := by
  obtain ⟨⟨L, R, A, B, t, lw, X⟩, w, f, N, q, P, K, G⟩ := s
  obtain ⟨hC, hR, hW⟩ := hst
  rcases x_lB z_w (x_141 (sp := sp) (d := d) hC hW (e_sv _).1 (e_sv _).2 (e_sv _).1 (e_sv _).2) hR hW with ⟨v, m1, m2, s', c, r, z0, zJ, st, n1, n2⟩ | ⟨e, k, v, m1, m2, s', hm, c, r, z0, st, n1, n2⟩
  · have c' : y_V sp true (d + 30) 141 [y_bo 10 0 0, y_bi (z_sv sp (i + 1).toNat), y_bi (z_sv sp (i + 2).toNat)] m = y_rI v m1 := c
    have r' : y_V sp true (d + 31) 223 [y_bo 11 0 49, y_bi (z_sv sp (i + 1).toNat), y_bi (z_sv sp (i + 2).toNat)] (y_sJ m1 105 0 (z_w v)) = y_rI v m2 := r
    have zJ' : y_mJ m2 105 0 = (z_w v) := zJ
    have wv : y_V sp true (d + 31) 301 [y_bo 10 0 0, y_bi (z_sv sp (i + 1).toNat), y_bi (z_sv sp (i + 2).toNat), y_bo 101 1 105] m = y_rI 0 (y_sJ m1 105 0 (z_w v)) := by rw [y_C_301, y_E_301_0, c', e_bI, e_g (by decide), y_E_301_21]
    exact ⟨m2, s', by rw [y_E_317_446, e_g (hg 1 (by decide) (by decide)), e_g (hg 2 (by decide) (by decide)), wv, e_bI, e_g (hg 1 (by decide) (by decide)), e_g (hg 2 (by decide) (by decide)), r', e_bI, x_178 (D := d + 30) z0, e_bI, if_pos rfl, y_E_317_494, if_neg (fun z => z (by decide)), zJ', e_lc0, if_pos rfl, y_E_317_511], st, n1, n2⟩
  · have r' : y_V sp true (d + 31) 223 [y_bo 11 0 49, y_bi (z_sv sp (i + 1).toNat), y_bi (z_sv sp (i + 2).toNat)] m1 = y_rI v m2 := r
    have fin : k ≠ 0 → y_V sp true (d + 31) 301 [y_bo 10 0 0, y_bi (z_sv sp (i + 1).toNat), y_bi (z_sv sp (i + 2).toNat), y_bo 101 1 105] m = y_rI k m1 → (-5 ≤ k ∧ k ≤ 5) → x_go sp d i 446 m := fun hk wv hk5 => ⟨m2, s', by rw [y_E_317_446, e_g (hg 1 (by decide) (by decide)), e_g (hg 2 (by decide) (by decide)), wv, e_bI, e_g (hg 1 (by decide) (by decide)), e_g (hg 2 (by decide) (by decide)), r', e_bI, x_178 (D := d + 30) z0, e_bI, if_pos rfl, y_E_317_494, if_pos (by rw [z_w_id (by omega) (by omega)]; exact hk), y_E_317_511], st, n1, n2⟩
    simp only [List.mem_cons, List.not_mem_nil, or_false, Prod.mk.injEq] at hm
    rcases hm with ⟨rfl, rfl⟩ | ⟨rfl, rfl⟩
    · have c' : y_V sp true (d + 30) 141 [y_bo 10 0 0, y_bi (z_sv sp (i + 1).toNat), y_bi (z_sv sp (i + 2).toNat)] m = some (.inr 1, m1) := c
      refine fin (by decide) ?_ (by decide)
      rw [y_C_301, y_E_301_0, c', e_bIx]
      exact y_E_301_13 (d + 30) 0 m1
    · have c' : y_V sp true (d + 30) 141 [y_bo 10 0 0, y_bi (z_sv sp (i + 1).toNat), y_bi (z_sv sp (i + 2).toNat)] m = some (.inr 0, m1) := c
      refine fin (by decide) ?_ (by decide)
      rw [y_C_301, y_E_301_0, c', e_bIx]
      exact y_E_301_17 (d + 30) 0 m1
theorem x_q514 {s : x_St} (hst : x_st m s) (hg : ∀ k : Int, 0 ≤ k → k ≤ 5 → 0 ≤ i + k ∧ i + k < (sp 600001 : Int) ∧ sp 600001 ≤ 1000000) : x_go sp d i 514 m := by
  obtain ⟨⟨L, R, A, B, t, lw, X⟩, w, f, N, q, P, K, G⟩ := s
  obtain ⟨hC, hR, hW⟩ := hst
  obtain ⟨v, m1, m2, s', c, r, st, n1, n2⟩ := x_lA (x_142 (sp := sp) (d := d + 1) hC hW (e_sv _).1 (e_sv _).2) hR hW
  have c' : y_V sp true (d + 31) 142 [y_bo 10 0 0, y_bi (z_sv sp (i + 1).toNat)] m = y_rI v m1 := c
  have r' : y_V sp true (d + 31) 224 [y_bo 11 0 49, y_bi (z_sv sp (i + 1).toNat)] m1 = y_rI v m2 := r
  exact ⟨m2, s', by rw [y_E_317_514, e_g (hg 1 (by decide) (by decide)), c', e_bI, e_g (hg 1 (by decide) (by decide)), r', e_bI, if_pos rfl], st, n1, n2⟩
theorem x_q539 {s : x_St} (hst : x_st m s) (hg : ∀ k : Int, 0 ≤ k → k ≤ 5 → 0 ≤ i + k ∧ i + k < (sp 600001 : Int) ∧ sp 600001 ≤ 1000000) : x_go sp d i 539 m := by
  obtain ⟨⟨L, R, A, B, t, lw, X⟩, w, f, N, q, P, K, G⟩ := s
  obtain ⟨hC, hR, hW⟩ := hst
  rcases x_lB z_w (x_143 (sp := sp) (d := d) hC hW) hR hW with ⟨v, m1, m2, s', c, r, z0, zJ, st, n1, n2⟩ | ⟨e, k, v, m1, m2, s', hm, c, r, z0, st, n1, n2⟩
  · have c' : y_V sp true (d + 30) 143 [y_bo 10 0 0] m = y_rI v m1 := c
    have r' : y_V sp true (d + 31) 231 [y_bo 11 0 49] (y_sJ m1 105 0 (z_w v)) = y_rI v m2 := r
    have zJ' : y_mJ m2 105 0 = (z_w v) := zJ
    have wv : y_V sp true (d + 31) 302 [y_bo 10 0 0, y_bo 101 1 105] m = y_rI 0 (y_sJ m1 105 0 (z_w v)) := by rw [y_C_302, y_E_302_0, c', e_bI, e_g (by decide), y_E_302_14]
    exact ⟨m2, s', by rw [y_E_317_539, wv, e_bI, r', e_bI, x_178 (D := d + 30) z0, e_bI, if_pos rfl, y_E_317_563, if_neg (fun z => z (by decide)), zJ', e_lc0, if_pos rfl, y_E_317_580], st, n1, n2⟩
  · have r' : y_V sp true (d + 31) 231 [y_bo 11 0 49] m1 = y_rI v m2 := r
    have fin : k ≠ 0 → y_V sp true (d + 31) 302 [y_bo 10 0 0, y_bo 101 1 105] m = y_rI k m1 → (-5 ≤ k ∧ k ≤ 5) → x_go sp d i 539 m := fun hk wv hk5 => ⟨m2, s', by rw [y_E_317_539, wv, e_bI, r', e_bI, x_178 (D := d + 30) z0, e_bI, if_pos rfl, y_E_317_563, if_pos (by rw [z_w_id (by omega) (by omega)]; exact hk), y_E_317_580], st, n1, n2⟩
    simp only [List.mem_cons, List.not_mem_nil, or_false, Prod.mk.injEq] at hm
    obtain ⟨rfl, rfl⟩ := hm
    have c' : y_V sp true (d + 30) 143 [y_bo 10 0 0] m = some (.inr 2, m1) := c
    refine fin (by decide) ?_ (by decide)
    rw [y_C_302, y_E_302_0, c', e_bIx]
    exact y_E_302_11 (d + 30) 0 m1
theorem x_q583 {s : x_St} (hst : x_st m s) (hg : ∀ k : Int, 0 ≤ k → k ≤ 5 → 0 ≤ i + k ∧ i + k < (sp 600001 : Int) ∧ sp 600001 ≤ 1000000) : x_go sp d i 583 m := by
  obtain ⟨⟨L, R, A, B, t, lw, X⟩, w, f, N, q, P, K, G⟩ := s
  obtain ⟨hC, hR, hW⟩ := hst
  rcases x_lB z_w (x_144 (sp := sp) (d := d) hC hW (e_sv _).1 (e_sv _).2) hR hW with ⟨v, m1, m2, s', c, r, z0, zJ, st, n1, n2⟩ | ⟨e, k, v, m1, m2, s', hm, c, r, z0, st, n1, n2⟩
  · have c' : y_V sp true (d + 30) 144 [y_bo 10 0 0, y_bi (z_sv sp (i + 1).toNat)] m = y_rI v m1 := c
    have r' : y_V sp true (d + 31) 234 [y_bo 11 0 49, y_bi (z_sv sp (i + 1).toNat)] (y_sJ m1 105 0 (z_w v)) = y_rI v m2 := r
    have zJ' : y_mJ m2 105 0 = (z_w v) := zJ
    have wv : y_V sp true (d + 31) 303 [y_bo 10 0 0, y_bi (z_sv sp (i + 1).toNat), y_bo 101 1 105] m = y_rI 0 (y_sJ m1 105 0 (z_w v)) := by rw [y_C_303, y_E_303_0, c', e_bI, e_g (by decide), y_E_303_18]
    exact ⟨m2, s', by rw [y_E_317_583, e_g (hg 1 (by decide) (by decide)), wv, e_bI, e_g (hg 1 (by decide) (by decide)), r', e_bI, x_178 (D := d + 30) z0, e_bI, if_pos rfl, y_E_317_619, if_neg (fun z => z (by decide)), zJ', e_lc0, if_pos rfl, y_E_317_636], st, n1, n2⟩
  · have r' : y_V sp true (d + 31) 234 [y_bo 11 0 49, y_bi (z_sv sp (i + 1).toNat)] m1 = y_rI v m2 := r
    have fin : k ≠ 0 → y_V sp true (d + 31) 303 [y_bo 10 0 0, y_bi (z_sv sp (i + 1).toNat), y_bo 101 1 105] m = y_rI k m1 → (-5 ≤ k ∧ k ≤ 5) → x_go sp d i 583 m := fun hk wv hk5 => ⟨m2, s', by rw [y_E_317_583, e_g (hg 1 (by decide) (by decide)), wv, e_bI, e_g (hg 1 (by decide) (by decide)), r', e_bI, x_178 (D := d + 30) z0, e_bI, if_pos rfl, y_E_317_619, if_pos (by rw [z_w_id (by omega) (by omega)]; exact hk), y_E_317_636], st, n1, n2⟩
    simp only [List.mem_cons, List.not_mem_nil, or_false, Prod.mk.injEq] at hm
    rcases hm with ⟨rfl, rfl⟩ | ⟨rfl, rfl⟩
    · have c' : y_V sp true (d + 30) 144 [y_bo 10 0 0, y_bi (z_sv sp (i + 1).toNat)] m = some (.inr 2, m1) := c
      refine fin (by decide) ?_ (by decide)
      rw [y_C_303, y_E_303_0, c', e_bIx]
      exact y_E_303_12 (d + 30) 0 m1
    · have c' : y_V sp true (d + 30) 144 [y_bo 10 0 0, y_bi (z_sv sp (i + 1).toNat)] m = some (.inr 0, m1) := c
      refine fin (by decide) ?_ (by decide)
      rw [y_C_303, y_E_303_0, c', e_bIx]
      exact y_E_303_15 (d + 30) 0 m1
theorem x_q639 {s : x_St} (hst : x_st m s) (hg : ∀ k : Int, 0 ≤ k → k ≤ 5 → 0 ≤ i + k ∧ i + k < (sp 600001 : Int) ∧ sp 600001 ≤ 1000000) : x_go sp d i 639 m := by
  obtain ⟨⟨L, R, A, B, t, lw, X⟩, w, f, N, q, P, K, G⟩ := s
  obtain ⟨hC, hR, hW⟩ := hst
  rcases x_lB id (x_145 (sp := sp) (d := d) hC hW) hR hW with ⟨v, m1, m2, s', c, r, z0, zJ, st, n1, n2⟩ | ⟨e, k, v, m1, m2, s', hm, c, r, z0, st, n1, n2⟩
  · have c' : y_V sp true (d + 30) 145 [y_bo 10 0 0] m = y_rL v m1 := c
    have r' : y_V sp true (d + 31) 249 [y_bo 11 0 49] (y_sJ m1 105 0 v) = y_rL v m2 := r
    have zJ' : y_mJ m2 105 0 = v := zJ
    have wv : y_V sp true (d + 31) 304 [y_bo 10 0 0, y_bo 101 1 105] m = y_rI 0 (y_sJ m1 105 0 v) := by rw [y_C_304, y_E_304_0, c', e_bL, e_g (by decide), y_E_304_13]
    exact ⟨m2, s', by rw [y_E_317_639, wv, e_bI, r', e_bL, x_178 (D := d + 30) z0, e_bI, if_pos rfl, y_E_317_663, if_neg (fun z => z (by decide)), zJ', e_lc0, if_pos rfl, y_E_317_679], st, n1, n2⟩
  · have r' : y_V sp true (d + 31) 249 [y_bo 11 0 49] m1 = y_rL v m2 := r
    have fin : k ≠ 0 → y_V sp true (d + 31) 304 [y_bo 10 0 0, y_bo 101 1 105] m = y_rI k m1 → (-5 ≤ k ∧ k ≤ 5) → x_go sp d i 639 m := fun hk wv hk5 => ⟨m2, s', by rw [y_E_317_639, wv, e_bI, r', e_bL, x_178 (D := d + 30) z0, e_bI, if_pos rfl, y_E_317_663, if_pos (by rw [z_w_id (by omega) (by omega)]; exact hk), y_E_317_679], st, n1, n2⟩
    simp only [List.mem_cons, List.not_mem_nil, or_false, Prod.mk.injEq] at hm
    obtain ⟨rfl, rfl⟩ := hm
    have c' : y_V sp true (d + 30) 145 [y_bo 10 0 0] m = some (.inr 2, m1) := c
    refine fin (by decide) ?_ (by decide)
    rw [y_C_304, y_E_304_0, c', e_bLx]
    exact y_E_304_10 (d + 30) 0 m1
theorem x_q682 {s : x_St} (hst : x_st m s) (hg : ∀ k : Int, 0 ≤ k → k ≤ 5 → 0 ≤ i + k ∧ i + k < (sp 600001 : Int) ∧ sp 600001 ≤ 1000000) : x_go sp d i 682 m := by
  obtain ⟨⟨L, R, A, B, t, lw, X⟩, w, f, N, q, P, K, G⟩ := s
  obtain ⟨hC, hR, hW⟩ := hst
  rcases x_lB id (x_146 (sp := sp) (d := d) hC hW (e_sv _).1 (e_sv _).2) hR hW with ⟨v, m1, m2, s', c, r, z0, zJ, st, n1, n2⟩ | ⟨e, k, v, m1, m2, s', hm, c, r, z0, st, n1, n2⟩
  · have c' : y_V sp true (d + 30) 146 [y_bo 10 0 0, y_bi (z_sv sp (i + 1).toNat)] m = y_rL v m1 := c
    have r' : y_V sp true (d + 31) 243 [y_bo 11 0 49, y_bi (z_sv sp (i + 1).toNat)] (y_sJ m1 105 0 v) = y_rL v m2 := r
    have zJ' : y_mJ m2 105 0 = v := zJ
    have wv : y_V sp true (d + 31) 305 [y_bo 10 0 0, y_bi (z_sv sp (i + 1).toNat), y_bo 101 1 105] m = y_rI 0 (y_sJ m1 105 0 v) := by rw [y_C_305, y_E_305_0, c', e_bL, e_g (by decide), y_E_305_14]
    exact ⟨m2, s', by rw [y_E_317_682, e_g (hg 1 (by decide) (by decide)), wv, e_bI, e_g (hg 1 (by decide) (by decide)), r', e_bL, x_178 (D := d + 30) z0, e_bI, if_pos rfl, y_E_317_718, if_neg (fun z => z (by decide)), zJ', e_lc0, if_pos rfl, y_E_317_734], st, n1, n2⟩
  · have r' : y_V sp true (d + 31) 243 [y_bo 11 0 49, y_bi (z_sv sp (i + 1).toNat)] m1 = y_rL v m2 := r
    have fin : k ≠ 0 → y_V sp true (d + 31) 305 [y_bo 10 0 0, y_bi (z_sv sp (i + 1).toNat), y_bo 101 1 105] m = y_rI k m1 → (-5 ≤ k ∧ k ≤ 5) → x_go sp d i 682 m := fun hk wv hk5 => ⟨m2, s', by rw [y_E_317_682, e_g (hg 1 (by decide) (by decide)), wv, e_bI, e_g (hg 1 (by decide) (by decide)), r', e_bL, x_178 (D := d + 30) z0, e_bI, if_pos rfl, y_E_317_718, if_pos (by rw [z_w_id (by omega) (by omega)]; exact hk), y_E_317_734], st, n1, n2⟩
    simp only [List.mem_cons, List.not_mem_nil, or_false, Prod.mk.injEq] at hm
    obtain ⟨rfl, rfl⟩ := hm
    have c' : y_V sp true (d + 30) 146 [y_bo 10 0 0, y_bi (z_sv sp (i + 1).toNat)] m = some (.inr 0, m1) := c
    refine fin (by decide) ?_ (by decide)
    rw [y_C_305, y_E_305_0, c', e_bLx]
    exact y_E_305_11 (d + 30) 0 m1
theorem x_q737 {s : x_St} (hst : x_st m s) (hg : ∀ k : Int, 0 ≤ k → k ≤ 5 → 0 ≤ i + k ∧ i + k < (sp 600001 : Int) ∧ sp 600001 ≤ 1000000) : x_go sp d i 737 m := by
  obtain ⟨⟨L, R, A, B, t, lw, X⟩, w, f, N, q, P, K, G⟩ := s
  obtain ⟨hC, hR, hW⟩ := hst
  rcases x_lB z_w (x_147 (sp := sp) (d := d) hC hW (e_sv _).1 (e_sv _).2 (e_lor _ _).1 (e_lor _ _).2) hR hW with ⟨v, m1, m2, s', c, r, z0, zJ, st, n1, n2⟩ | ⟨e, k, v, m1, m2, s', hm, c, r, z0, st, n1, n2⟩
  · have c' : y_V sp true (d + 30) 147 [y_bo 10 0 0, y_bi (z_sv sp (i + 1).toNat), y_bl (z_lor (z_lshl (z_w (z_sv sp (i + 2).toNat)) 32) (z_land (z_w (z_sv sp (i + 3).toNat)) 4294967295))] m = y_rI v m1 := c
    have r' : y_V sp true (d + 31) 245 [y_bo 11 0 49, y_bi (z_sv sp (i + 1).toNat), y_bl (z_lor (z_lshl (z_w (z_sv sp (i + 2).toNat)) 32) (z_land (z_w (z_sv sp (i + 3).toNat)) 4294967295))] (y_sJ m1 105 0 (z_w v)) = y_rI v m2 := r
    have zJ' : y_mJ m2 105 0 = (z_w v) := zJ
    have wv : y_V sp true (d + 31) 306 [y_bo 10 0 0, y_bi (z_sv sp (i + 1).toNat), y_bl (z_lor (z_lshl (z_w (z_sv sp (i + 2).toNat)) 32) (z_land (z_w (z_sv sp (i + 3).toNat)) 4294967295)), y_bo 101 1 105] m = y_rI 0 (y_sJ m1 105 0 (z_w v)) := by rw [y_C_306, y_E_306_0, c', e_bI, e_g (by decide), y_E_306_18]
    exact ⟨m2, s', by rw [y_E_317_737, e_g (hg 1 (by decide) (by decide)), e_g (hg 2 (by decide) (by decide)), e_g (hg 3 (by decide) (by decide)), wv, e_bI, e_g (hg 1 (by decide) (by decide)), e_g (hg 2 (by decide) (by decide)), e_g (hg 3 (by decide) (by decide)), r', e_bI, x_178 (D := d + 30) z0, e_bI, if_pos rfl, y_E_317_817, if_neg (fun z => z (by decide)), zJ', e_lc0, if_pos rfl, y_E_317_834], st, n1, n2⟩
  · have r' : y_V sp true (d + 31) 245 [y_bo 11 0 49, y_bi (z_sv sp (i + 1).toNat), y_bl (z_lor (z_lshl (z_w (z_sv sp (i + 2).toNat)) 32) (z_land (z_w (z_sv sp (i + 3).toNat)) 4294967295))] m1 = y_rI v m2 := r
    have fin : k ≠ 0 → y_V sp true (d + 31) 306 [y_bo 10 0 0, y_bi (z_sv sp (i + 1).toNat), y_bl (z_lor (z_lshl (z_w (z_sv sp (i + 2).toNat)) 32) (z_land (z_w (z_sv sp (i + 3).toNat)) 4294967295)), y_bo 101 1 105] m = y_rI k m1 → (-5 ≤ k ∧ k ≤ 5) → x_go sp d i 737 m := fun hk wv hk5 => ⟨m2, s', by rw [y_E_317_737, e_g (hg 1 (by decide) (by decide)), e_g (hg 2 (by decide) (by decide)), e_g (hg 3 (by decide) (by decide)), wv, e_bI, e_g (hg 1 (by decide) (by decide)), e_g (hg 2 (by decide) (by decide)), e_g (hg 3 (by decide) (by decide)), r', e_bI, x_178 (D := d + 30) z0, e_bI, if_pos rfl, y_E_317_817, if_pos (by rw [z_w_id (by omega) (by omega)]; exact hk), y_E_317_834], st, n1, n2⟩
    simp only [List.mem_cons, List.not_mem_nil, or_false, Prod.mk.injEq] at hm
    obtain ⟨rfl, rfl⟩ := hm
    have c' : y_V sp true (d + 30) 147 [y_bo 10 0 0, y_bi (z_sv sp (i + 1).toNat), y_bl (z_lor (z_lshl (z_w (z_sv sp (i + 2).toNat)) 32) (z_land (z_w (z_sv sp (i + 3).toNat)) 4294967295))] m = some (.inr 0, m1) := c
    refine fin (by decide) ?_ (by decide)
    rw [y_C_306, y_E_306_0, c', e_bIx]
    exact y_E_306_14 (d + 30) 0 m1
theorem x_q837 {s : x_St} (hst : x_st m s) (hg : ∀ k : Int, 0 ≤ k → k ≤ 5 → 0 ≤ i + k ∧ i + k < (sp 600001 : Int) ∧ sp 600001 ≤ 1000000) : x_go sp d i 837 m := by
  obtain ⟨⟨L, R, A, B, t, lw, X⟩, w, f, N, q, P, K, G⟩ := s
  obtain ⟨hC, hR, hW⟩ := hst
  rcases x_lB z_w (x_148 (sp := sp) (d := d) hC hW (e_sv _).1 (e_sv _).2 (e_sv _).1 (e_sv _).2) hR hW with ⟨v, m1, m2, s', c, r, z0, zJ, st, n1, n2⟩ | ⟨e, k, v, m1, m2, s', hm, c, r, z0, st, n1, n2⟩
  · have c' : y_V sp true (d + 30) 148 [y_bo 10 0 0, y_bi (z_sv sp (i + 1).toNat), y_bi (z_sv sp (i + 2).toNat)] m = y_rI v m1 := c
    have r' : y_V sp true (d + 31) 255 [y_bo 11 0 49, y_bi (z_sv sp (i + 1).toNat), y_bi (z_sv sp (i + 2).toNat)] (y_sJ m1 105 0 (z_w v)) = y_rI v m2 := r
    have zJ' : y_mJ m2 105 0 = (z_w v) := zJ
    have wv : y_V sp true (d + 31) 307 [y_bo 10 0 0, y_bi (z_sv sp (i + 1).toNat), y_bi (z_sv sp (i + 2).toNat), y_bo 101 1 105] m = y_rI 0 (y_sJ m1 105 0 (z_w v)) := by rw [y_C_307, y_E_307_0, c', e_bI, e_g (by decide), y_E_307_17]
    exact ⟨m2, s', by rw [y_E_317_837, e_g (hg 1 (by decide) (by decide)), e_g (hg 2 (by decide) (by decide)), wv, e_bI, e_g (hg 1 (by decide) (by decide)), e_g (hg 2 (by decide) (by decide)), r', e_bI, x_178 (D := d + 30) z0, e_bI, if_pos rfl, y_E_317_885, if_neg (fun z => z (by decide)), zJ', e_lc0, if_pos rfl, y_E_317_902], st, n1, n2⟩
  · have r' : y_V sp true (d + 31) 255 [y_bo 11 0 49, y_bi (z_sv sp (i + 1).toNat), y_bi (z_sv sp (i + 2).toNat)] m1 = y_rI v m2 := r
    have fin : k ≠ 0 → y_V sp true (d + 31) 307 [y_bo 10 0 0, y_bi (z_sv sp (i + 1).toNat), y_bi (z_sv sp (i + 2).toNat), y_bo 101 1 105] m = y_rI k m1 → (-5 ≤ k ∧ k ≤ 5) → x_go sp d i 837 m := fun hk wv hk5 => ⟨m2, s', by rw [y_E_317_837, e_g (hg 1 (by decide) (by decide)), e_g (hg 2 (by decide) (by decide)), wv, e_bI, e_g (hg 1 (by decide) (by decide)), e_g (hg 2 (by decide) (by decide)), r', e_bI, x_178 (D := d + 30) z0, e_bI, if_pos rfl, y_E_317_885, if_pos (by rw [z_w_id (by omega) (by omega)]; exact hk), y_E_317_902], st, n1, n2⟩
    simp only [List.mem_cons, List.not_mem_nil, or_false, Prod.mk.injEq] at hm
    obtain ⟨rfl, rfl⟩ := hm
    have c' : y_V sp true (d + 30) 148 [y_bo 10 0 0, y_bi (z_sv sp (i + 1).toNat), y_bi (z_sv sp (i + 2).toNat)] m = some (.inr 0, m1) := c
    refine fin (by decide) ?_ (by decide)
    rw [y_C_307, y_E_307_0, c', e_bIx]
    exact y_E_307_13 (d + 30) 0 m1
theorem x_q905 {s : x_St} (hst : x_st m s) (hg : ∀ k : Int, 0 ≤ k → k ≤ 5 → 0 ≤ i + k ∧ i + k < (sp 600001 : Int) ∧ sp 600001 ≤ 1000000) : x_go sp d i 905 m := by
  obtain ⟨⟨L, R, A, B, t, lw, X⟩, w, f, N, q, P, K, G⟩ := s
  obtain ⟨hC, hR, hW⟩ := hst
  rcases x_lB z_w (x_149 (sp := sp) (d := d) hC hW) hR hW with ⟨v, m1, m2, s', c, r, z0, zJ, st, n1, n2⟩ | ⟨e, k, v, m1, m2, s', hm, c, r, z0, st, n1, n2⟩
  · have c' : y_V sp true (d + 30) 149 [y_bo 10 0 0] m = y_rI v m1 := c
    have r' : y_V sp true (d + 31) 256 [y_bo 11 0 49] (y_sJ m1 105 0 (z_w v)) = y_rI v m2 := r
    have zJ' : y_mJ m2 105 0 = (z_w v) := zJ
    have wv : y_V sp true (d + 31) 308 [y_bo 10 0 0, y_bo 101 1 105] m = y_rI 0 (y_sJ m1 105 0 (z_w v)) := by rw [y_C_308, y_E_308_0, c', e_bI, e_g (by decide), y_E_308_14]
    exact ⟨m2, s', by rw [y_E_317_905, wv, e_bI, r', e_bI, x_178 (D := d + 30) z0, e_bI, if_pos rfl, y_E_317_929, if_neg (fun z => z (by decide)), zJ', e_lc0, if_pos rfl, y_E_317_946], st, n1, n2⟩
  · have r' : y_V sp true (d + 31) 256 [y_bo 11 0 49] m1 = y_rI v m2 := r
    have fin : k ≠ 0 → y_V sp true (d + 31) 308 [y_bo 10 0 0, y_bo 101 1 105] m = y_rI k m1 → (-5 ≤ k ∧ k ≤ 5) → x_go sp d i 905 m := fun hk wv hk5 => ⟨m2, s', by rw [y_E_317_905, wv, e_bI, r', e_bI, x_178 (D := d + 30) z0, e_bI, if_pos rfl, y_E_317_929, if_pos (by rw [z_w_id (by omega) (by omega)]; exact hk), y_E_317_946], st, n1, n2⟩
    simp only [List.mem_cons, List.not_mem_nil, or_false, Prod.mk.injEq] at hm
    obtain ⟨rfl, rfl⟩ := hm
    have c' : y_V sp true (d + 30) 149 [y_bo 10 0 0] m = some (.inr 2, m1) := c
    refine fin (by decide) ?_ (by decide)
    rw [y_C_308, y_E_308_0, c', e_bIx]
    exact y_E_308_11 (d + 30) 0 m1
theorem x_q949 {s : x_St} (hst : x_st m s) (hg : ∀ k : Int, 0 ≤ k → k ≤ 5 → 0 ≤ i + k ∧ i + k < (sp 600001 : Int) ∧ sp 600001 ≤ 1000000) : x_go sp d i 949 m := by
  obtain ⟨⟨L, R, A, B, t, lw, X⟩, w, f, N, q, P, K, G⟩ := s
  obtain ⟨hC, hR, hW⟩ := hst
  obtain ⟨v, m1, m2, s', c, r, st, n1, n2⟩ := x_lA (x_150 (sp := sp) (d := d + 1) hC hW) hR hW
  have c' : y_V sp true (d + 31) 150 [y_bo 10 0 0] m = y_rI v m1 := c
  have r' : y_V sp true (d + 31) 262 [y_bo 11 0 49] m1 = y_rI v m2 := r
  exact ⟨m2, s', by rw [y_E_317_949, c', e_bI, r', e_bI, if_pos rfl], st, n1, n2⟩
theorem x_q962 {s : x_St} (hst : x_st m s) (hg : ∀ k : Int, 0 ≤ k → k ≤ 5 → 0 ≤ i + k ∧ i + k < (sp 600001 : Int) ∧ sp 600001 ≤ 1000000) : x_go sp d i 962 m := by
  obtain ⟨⟨L, R, A, B, t, lw, X⟩, w, f, N, q, P, K, G⟩ := s
  obtain ⟨hC, hR, hW⟩ := hst
  obtain ⟨v, m1, m2, s', c, r, st, n1, n2⟩ := x_lA (x_151 (sp := sp) (d := d + 1) hC hW) hR hW
  have c' : y_V sp true (d + 31) 151 [y_bo 10 0 0] m = y_rI v m1 := c
  have r' : y_V sp true (d + 31) 263 [y_bo 11 0 49] m1 = y_rI v m2 := r
  exact ⟨m2, s', by rw [y_E_317_962, c', e_bI, r', e_bI, if_pos rfl], st, n1, n2⟩
theorem x_q975 {s : x_St} (hst : x_st m s) (hg : ∀ k : Int, 0 ≤ k → k ≤ 5 → 0 ≤ i + k ∧ i + k < (sp 600001 : Int) ∧ sp 600001 ≤ 1000000) : x_go sp d i 975 m := by
  obtain ⟨⟨L, R, A, B, t, lw, X⟩, w, f, N, q, P, K, G⟩ := s
  obtain ⟨hC, hR, hW⟩ := hst
  obtain ⟨v, m1, m2, s', c, r, st, n1, n2⟩ := x_lA (x_152 (sp := sp) (d := d + 1) hC hW) hR hW
  have c' : y_V sp true (d + 31) 152 [y_bo 10 0 0] m = y_rI v m1 := c
  have r' : y_V sp true (d + 31) 271 [y_bo 11 0 49] m1 = y_rI v m2 := r
  exact ⟨m2, s', by rw [y_E_317_975, c', e_bI, r', e_bI, if_pos rfl], st, n1, n2⟩
theorem x_q988 {s : x_St} (hst : x_st m s) (hg : ∀ k : Int, 0 ≤ k → k ≤ 5 → 0 ≤ i + k ∧ i + k < (sp 600001 : Int) ∧ sp 600001 ≤ 1000000) : x_go sp d i 988 m := by
  obtain ⟨⟨L, R, A, B, t, lw, X⟩, w, f, N, q, P, K, G⟩ := s
  obtain ⟨hC, hR, hW⟩ := hst
  rcases x_lB z_w (x_153 (sp := sp) (d := d) hC hW) hR hW with ⟨v, m1, m2, s', c, r, z0, zJ, st, n1, n2⟩ | ⟨e, k, v, m1, m2, s', hm, c, r, z0, st, n1, n2⟩
  · have c' : y_V sp true (d + 30) 153 [y_bo 10 0 0] m = y_rI v m1 := c
    have r' : y_V sp true (d + 31) 272 [y_bo 11 0 49] (y_sJ m1 105 0 (z_w v)) = y_rI v m2 := r
    have zJ' : y_mJ m2 105 0 = (z_w v) := zJ
    have wv : y_V sp true (d + 31) 309 [y_bo 10 0 0, y_bo 101 1 105] m = y_rI 0 (y_sJ m1 105 0 (z_w v)) := by rw [y_C_309, y_E_309_0, c', e_bI, e_g (by decide), y_E_309_14]
    exact ⟨m2, s', by rw [y_E_317_988, wv, e_bI, r', e_bI, x_178 (D := d + 30) z0, e_bI, if_pos rfl, y_E_317_1012, if_neg (fun z => z (by decide)), zJ', e_lc0, if_pos rfl, y_E_317_1029], st, n1, n2⟩
  · have r' : y_V sp true (d + 31) 272 [y_bo 11 0 49] m1 = y_rI v m2 := r
    have fin : k ≠ 0 → y_V sp true (d + 31) 309 [y_bo 10 0 0, y_bo 101 1 105] m = y_rI k m1 → (-5 ≤ k ∧ k ≤ 5) → x_go sp d i 988 m := fun hk wv hk5 => ⟨m2, s', by rw [y_E_317_988, wv, e_bI, r', e_bI, x_178 (D := d + 30) z0, e_bI, if_pos rfl, y_E_317_1012, if_pos (by rw [z_w_id (by omega) (by omega)]; exact hk), y_E_317_1029], st, n1, n2⟩
    simp only [List.mem_cons, List.not_mem_nil, or_false, Prod.mk.injEq] at hm
    obtain ⟨rfl, rfl⟩ := hm
    have c' : y_V sp true (d + 30) 153 [y_bo 10 0 0] m = some (.inr 2, m1) := c
    refine fin (by decide) ?_ (by decide)
    rw [y_C_309, y_E_309_0, c', e_bIx]
    exact y_E_309_11 (d + 30) 0 m1
theorem x_q1032 {s : x_St} (hst : x_st m s) (hg : ∀ k : Int, 0 ≤ k → k ≤ 5 → 0 ≤ i + k ∧ i + k < (sp 600001 : Int) ∧ sp 600001 ≤ 1000000) : x_go sp d i 1032 m := by
  obtain ⟨⟨L, R, A, B, t, lw, X⟩, w, f, N, q, P, K, G⟩ := s
  obtain ⟨hC, hR, hW⟩ := hst
  rcases x_lB z_w (x_154 (sp := sp) (d := d) hC hW (e_sv _).1 (e_sv _).2) hR hW with ⟨v, m1, m2, s', c, r, z0, zJ, st, n1, n2⟩ | ⟨e, k, v, m1, m2, s', hm, c, r, z0, st, n1, n2⟩
  · have c' : y_V sp true (d + 30) 154 [y_bo 10 0 0, y_bi (z_sv sp (i + 1).toNat)] m = y_rI v m1 := c
    have r' : y_V sp true (d + 31) 265 [y_bo 11 0 49, y_bi (z_sv sp (i + 1).toNat)] (y_sJ m1 105 0 (z_w v)) = y_rI v m2 := r
    have zJ' : y_mJ m2 105 0 = (z_w v) := zJ
    have wv : y_V sp true (d + 31) 310 [y_bo 10 0 0, y_bi (z_sv sp (i + 1).toNat), y_bo 101 1 105] m = y_rI 0 (y_sJ m1 105 0 (z_w v)) := by rw [y_C_310, y_E_310_0, c', e_bI, e_g (by decide), y_E_310_15]
    exact ⟨m2, s', by rw [y_E_317_1032, e_g (hg 1 (by decide) (by decide)), wv, e_bI, e_g (hg 1 (by decide) (by decide)), r', e_bI, x_178 (D := d + 30) z0, e_bI, if_pos rfl, y_E_317_1068, if_neg (fun z => z (by decide)), zJ', e_lc0, if_pos rfl, y_E_317_1085], st, n1, n2⟩
  · have r' : y_V sp true (d + 31) 265 [y_bo 11 0 49, y_bi (z_sv sp (i + 1).toNat)] m1 = y_rI v m2 := r
    have fin : k ≠ 0 → y_V sp true (d + 31) 310 [y_bo 10 0 0, y_bi (z_sv sp (i + 1).toNat), y_bo 101 1 105] m = y_rI k m1 → (-5 ≤ k ∧ k ≤ 5) → x_go sp d i 1032 m := fun hk wv hk5 => ⟨m2, s', by rw [y_E_317_1032, e_g (hg 1 (by decide) (by decide)), wv, e_bI, e_g (hg 1 (by decide) (by decide)), r', e_bI, x_178 (D := d + 30) z0, e_bI, if_pos rfl, y_E_317_1068, if_pos (by rw [z_w_id (by omega) (by omega)]; exact hk), y_E_317_1085], st, n1, n2⟩
    simp only [List.mem_cons, List.not_mem_nil, or_false, Prod.mk.injEq] at hm
    obtain ⟨rfl, rfl⟩ := hm
    have c' : y_V sp true (d + 30) 154 [y_bo 10 0 0, y_bi (z_sv sp (i + 1).toNat)] m = some (.inr 0, m1) := c
    refine fin (by decide) ?_ (by decide)
    rw [y_C_310, y_E_310_0, c', e_bIx]
    exact y_E_310_12 (d + 30) 0 m1
theorem x_q1088 {s : x_St} (hst : x_st m s) (hg : ∀ k : Int, 0 ≤ k → k ≤ 5 → 0 ≤ i + k ∧ i + k < (sp 600001 : Int) ∧ sp 600001 ≤ 1000000) : x_go sp d i 1088 m := by
  obtain ⟨⟨L, R, A, B, t, lw, X⟩, w, f, N, q, P, K, G⟩ := s
  obtain ⟨hC, hR, hW⟩ := hst
  obtain ⟨v, m1, m2, s', c, r, st, n1, n2⟩ := x_lA (x_155 (sp := sp) (d := d + 1) hC hW) hR hW
  have c' : y_V sp true (d + 31) 155 [y_bo 10 0 0] m = y_rI v m1 := c
  have r' : y_V sp true (d + 31) 266 [y_bo 11 0 49] m1 = y_rI v m2 := r
  exact ⟨m2, s', by rw [y_E_317_1088, c', e_bI, r', e_bI, if_pos rfl], st, n1, n2⟩
theorem x_q1101 {s : x_St} (hst : x_st m s) (hg : ∀ k : Int, 0 ≤ k → k ≤ 5 → 0 ≤ i + k ∧ i + k < (sp 600001 : Int) ∧ sp 600001 ≤ 1000000) : x_go sp d i 1101 m := by
  obtain ⟨⟨L, R, A, B, t, lw, X⟩, w, f, N, q, P, K, G⟩ := s
  obtain ⟨hC, hR, hW⟩ := hst
  rcases x_lB z_w (x_156 (sp := sp) (d := d) hC hW (e_sv _).1 (e_sv _).2 (e_sv _).1 (e_sv _).2) hR hW with ⟨v, m1, m2, s', c, r, z0, zJ, st, n1, n2⟩ | ⟨e, k, v, m1, m2, s', hm, c, r, z0, st, n1, n2⟩
  · have c' : y_V sp true (d + 30) 156 [y_bo 10 0 0, y_bi (z_sv sp (i + 1).toNat), y_bi (z_sv sp (i + 2).toNat)] m = y_rI v m1 := c
    have r' : y_V sp true (d + 31) 274 [y_bo 11 0 49, y_bi (z_sv sp (i + 1).toNat), y_bi (z_sv sp (i + 2).toNat)] (y_sJ m1 105 0 (z_w v)) = y_rI v m2 := r
    have zJ' : y_mJ m2 105 0 = (z_w v) := zJ
    have wv : y_V sp true (d + 31) 311 [y_bo 10 0 0, y_bi (z_sv sp (i + 1).toNat), y_bi (z_sv sp (i + 2).toNat), y_bo 101 1 105] m = y_rI 0 (y_sJ m1 105 0 (z_w v)) := by rw [y_C_311, y_E_311_0, c', e_bI, e_g (by decide), y_E_311_21]
    exact ⟨m2, s', by rw [y_E_317_1101, e_g (hg 1 (by decide) (by decide)), e_g (hg 2 (by decide) (by decide)), wv, e_bI, e_g (hg 1 (by decide) (by decide)), e_g (hg 2 (by decide) (by decide)), r', e_bI, x_178 (D := d + 30) z0, e_bI, if_pos rfl, y_E_317_1149, if_neg (fun z => z (by decide)), zJ', e_lc0, if_pos rfl, y_E_317_1166], st, n1, n2⟩
  · have r' : y_V sp true (d + 31) 274 [y_bo 11 0 49, y_bi (z_sv sp (i + 1).toNat), y_bi (z_sv sp (i + 2).toNat)] m1 = y_rI v m2 := r
    have fin : k ≠ 0 → y_V sp true (d + 31) 311 [y_bo 10 0 0, y_bi (z_sv sp (i + 1).toNat), y_bi (z_sv sp (i + 2).toNat), y_bo 101 1 105] m = y_rI k m1 → (-5 ≤ k ∧ k ≤ 5) → x_go sp d i 1101 m := fun hk wv hk5 => ⟨m2, s', by rw [y_E_317_1101, e_g (hg 1 (by decide) (by decide)), e_g (hg 2 (by decide) (by decide)), wv, e_bI, e_g (hg 1 (by decide) (by decide)), e_g (hg 2 (by decide) (by decide)), r', e_bI, x_178 (D := d + 30) z0, e_bI, if_pos rfl, y_E_317_1149, if_pos (by rw [z_w_id (by omega) (by omega)]; exact hk), y_E_317_1166], st, n1, n2⟩
    simp only [List.mem_cons, List.not_mem_nil, or_false, Prod.mk.injEq] at hm
    rcases hm with ⟨rfl, rfl⟩ | ⟨rfl, rfl⟩
    · have c' : y_V sp true (d + 30) 156 [y_bo 10 0 0, y_bi (z_sv sp (i + 1).toNat), y_bi (z_sv sp (i + 2).toNat)] m = some (.inr 1, m1) := c
      refine fin (by decide) ?_ (by decide)
      rw [y_C_311, y_E_311_0, c', e_bIx]
      exact y_E_311_13 (d + 30) 0 m1
    · have c' : y_V sp true (d + 30) 156 [y_bo 10 0 0, y_bi (z_sv sp (i + 1).toNat), y_bi (z_sv sp (i + 2).toNat)] m = some (.inr 0, m1) := c
      refine fin (by decide) ?_ (by decide)
      rw [y_C_311, y_E_311_0, c', e_bIx]
      exact y_E_311_17 (d + 30) 0 m1
theorem x_q1169 {s : x_St} (hst : x_st m s) (hg : ∀ k : Int, 0 ≤ k → k ≤ 5 → 0 ≤ i + k ∧ i + k < (sp 600001 : Int) ∧ sp 600001 ≤ 1000000) : x_go sp d i 1169 m := by
  obtain ⟨⟨L, R, A, B, t, lw, X⟩, w, f, N, q, P, K, G⟩ := s
  obtain ⟨hC, hR, hW⟩ := hst
  obtain ⟨v, m1, m2, s', c, r, st, n1, n2⟩ := x_lA (x_157 (sp := sp) (d := d + 1) hC hW) hR hW
  have c' : y_V sp true (d + 31) 157 [y_bo 10 0 0] m = y_rI v m1 := c
  have r' : y_V sp true (d + 31) 275 [y_bo 11 0 49] m1 = y_rI v m2 := r
  exact ⟨m2, s', by rw [y_E_317_1169, c', e_bI, r', e_bI, if_pos rfl], st, n1, n2⟩
theorem x_q1182 {s : x_St} (hst : x_st m s) (hg : ∀ k : Int, 0 ≤ k → k ≤ 5 → 0 ≤ i + k ∧ i + k < (sp 600001 : Int) ∧ sp 600001 ≤ 1000000) : x_go sp d i 1182 m := by
  obtain ⟨⟨L, R, A, B, t, lw, X⟩, w, f, N, q, P, K, G⟩ := s
  obtain ⟨hC, hR, hW⟩ := hst
  obtain ⟨v, m1, m2, s', c, r, st, n1, n2⟩ := x_lA (x_158 (sp := sp) (d := d + 1) hC hW) hR hW
  have c' : y_V sp true (d + 31) 158 [y_bo 10 0 0] m = y_rI v m1 := c
  have r' : y_V sp true (d + 31) 280 [y_bo 11 0 49] m1 = y_rI v m2 := r
  exact ⟨m2, s', by rw [y_E_317_1182, c', e_bI, r', e_bI, if_pos rfl], st, n1, n2⟩
theorem x_q1195 {s : x_St} (hst : x_st m s) (hg : ∀ k : Int, 0 ≤ k → k ≤ 5 → 0 ≤ i + k ∧ i + k < (sp 600001 : Int) ∧ sp 600001 ≤ 1000000) : x_go sp d i 1195 m := by
  obtain ⟨⟨L, R, A, B, t, lw, X⟩, w, f, N, q, P, K, G⟩ := s
  obtain ⟨hC, hR, hW⟩ := hst
  obtain ⟨v, m1, m2, s', c, r, st, n1, n2⟩ := x_lA (x_159 (sp := sp) (d := d + 1) hC hW) hR hW
  have c' : y_V sp true (d + 31) 159 [y_bo 10 0 0] m = y_rI v m1 := c
  have r' : y_V sp true (d + 31) 281 [y_bo 11 0 49] m1 = y_rI v m2 := r
  exact ⟨m2, s', by rw [y_E_317_1195, c', e_bI, r', e_bI, if_pos rfl], st, n1, n2⟩
theorem x_q1208 {s : x_St} (hst : x_st m s) (hg : ∀ k : Int, 0 ≤ k → k ≤ 5 → 0 ≤ i + k ∧ i + k < (sp 600001 : Int) ∧ sp 600001 ≤ 1000000) : x_go sp d i 1208 m := by
  obtain ⟨⟨L, R, A, B, t, lw, X⟩, w, f, N, q, P, K, G⟩ := s
  obtain ⟨hC, hR, hW⟩ := hst
  rcases x_lB z_w (x_160 (sp := sp) (d := d) hC hW) hR hW with ⟨v, m1, m2, s', c, r, z0, zJ, st, n1, n2⟩ | ⟨e, k, v, m1, m2, s', hm, c, r, z0, st, n1, n2⟩
  · have c' : y_V sp true (d + 30) 160 [y_bo 10 0 0] m = y_rI v m1 := c
    have r' : y_V sp true (d + 31) 283 [y_bo 11 0 49] (y_sJ m1 105 0 (z_w v)) = y_rI v m2 := r
    have zJ' : y_mJ m2 105 0 = (z_w v) := zJ
    have wv : y_V sp true (d + 31) 312 [y_bo 10 0 0, y_bo 101 1 105] m = y_rI 0 (y_sJ m1 105 0 (z_w v)) := by rw [y_C_312, y_E_312_0, c', e_bI, e_g (by decide), y_E_312_14]
    exact ⟨m2, s', by rw [y_E_317_1208, wv, e_bI, r', e_bI, x_178 (D := d + 30) z0, e_bI, if_pos rfl, y_E_317_1232, if_neg (fun z => z (by decide)), zJ', e_lc0, if_pos rfl, y_E_317_1249], st, n1, n2⟩
  · have r' : y_V sp true (d + 31) 283 [y_bo 11 0 49] m1 = y_rI v m2 := r
    have fin : k ≠ 0 → y_V sp true (d + 31) 312 [y_bo 10 0 0, y_bo 101 1 105] m = y_rI k m1 → (-5 ≤ k ∧ k ≤ 5) → x_go sp d i 1208 m := fun hk wv hk5 => ⟨m2, s', by rw [y_E_317_1208, wv, e_bI, r', e_bI, x_178 (D := d + 30) z0, e_bI, if_pos rfl, y_E_317_1232, if_pos (by rw [z_w_id (by omega) (by omega)]; exact hk), y_E_317_1249], st, n1, n2⟩
    simp only [List.mem_cons, List.not_mem_nil, or_false, Prod.mk.injEq] at hm
    obtain ⟨rfl, rfl⟩ := hm
    have c' : y_V sp true (d + 30) 160 [y_bo 10 0 0] m = some (.inr 2, m1) := c
    refine fin (by decide) ?_ (by decide)
    rw [y_C_312, y_E_312_0, c', e_bIx]
    exact y_E_312_11 (d + 30) 0 m1
theorem x_q1252 {s : x_St} (hst : x_st m s) (hg : ∀ k : Int, 0 ≤ k → k ≤ 5 → 0 ≤ i + k ∧ i + k < (sp 600001 : Int) ∧ sp 600001 ≤ 1000000) : x_go sp d i 1252 m := by
  obtain ⟨⟨L, R, A, B, t, lw, X⟩, w, f, N, q, P, K, G⟩ := s
  obtain ⟨hC, hR, hW⟩ := hst
  rcases x_lB z_w (x_161 (sp := sp) (d := d) hC hW (e_sv _).1 (e_sv _).2 (e_sv _).1 (e_sv _).2) hR hW with ⟨v, m1, m2, s', c, r, z0, zJ, st, n1, n2⟩ | ⟨e, k, v, m1, m2, s', hm, c, r, z0, st, n1, n2⟩
  · have c' : y_V sp true (d + 30) 161 [y_bo 10 0 0, y_bi (z_sv sp (i + 1).toNat), y_bi (z_sv sp (i + 2).toNat)] m = y_rI v m1 := c
    have r' : y_V sp true (d + 31) 285 [y_bo 11 0 49, y_bi (z_sv sp (i + 1).toNat), y_bi (z_sv sp (i + 2).toNat)] (y_sJ m1 105 0 (z_w v)) = y_rI v m2 := r
    have zJ' : y_mJ m2 105 0 = (z_w v) := zJ
    have wv : y_V sp true (d + 31) 313 [y_bo 10 0 0, y_bi (z_sv sp (i + 1).toNat), y_bi (z_sv sp (i + 2).toNat), y_bo 101 1 105] m = y_rI 0 (y_sJ m1 105 0 (z_w v)) := by rw [y_C_313, y_E_313_0, c', e_bI, e_g (by decide), y_E_313_21]
    exact ⟨m2, s', by rw [y_E_317_1252, e_g (hg 1 (by decide) (by decide)), e_g (hg 2 (by decide) (by decide)), wv, e_bI, e_g (hg 1 (by decide) (by decide)), e_g (hg 2 (by decide) (by decide)), r', e_bI, x_178 (D := d + 30) z0, e_bI, if_pos rfl, y_E_317_1300, if_neg (fun z => z (by decide)), zJ', e_lc0, if_pos rfl, y_E_317_1317], st, n1, n2⟩
  · have r' : y_V sp true (d + 31) 285 [y_bo 11 0 49, y_bi (z_sv sp (i + 1).toNat), y_bi (z_sv sp (i + 2).toNat)] m1 = y_rI v m2 := r
    have fin : k ≠ 0 → y_V sp true (d + 31) 313 [y_bo 10 0 0, y_bi (z_sv sp (i + 1).toNat), y_bi (z_sv sp (i + 2).toNat), y_bo 101 1 105] m = y_rI k m1 → (-5 ≤ k ∧ k ≤ 5) → x_go sp d i 1252 m := fun hk wv hk5 => ⟨m2, s', by rw [y_E_317_1252, e_g (hg 1 (by decide) (by decide)), e_g (hg 2 (by decide) (by decide)), wv, e_bI, e_g (hg 1 (by decide) (by decide)), e_g (hg 2 (by decide) (by decide)), r', e_bI, x_178 (D := d + 30) z0, e_bI, if_pos rfl, y_E_317_1300, if_pos (by rw [z_w_id (by omega) (by omega)]; exact hk), y_E_317_1317], st, n1, n2⟩
    simp only [List.mem_cons, List.not_mem_nil, or_false, Prod.mk.injEq] at hm
    rcases hm with ⟨rfl, rfl⟩ | ⟨rfl, rfl⟩
    · have c' : y_V sp true (d + 30) 161 [y_bo 10 0 0, y_bi (z_sv sp (i + 1).toNat), y_bi (z_sv sp (i + 2).toNat)] m = some (.inr 2, m1) := c
      refine fin (by decide) ?_ (by decide)
      rw [y_C_313, y_E_313_0, c', e_bIx]
      exact y_E_313_13 (d + 30) 0 m1
    · have c' : y_V sp true (d + 30) 161 [y_bo 10 0 0, y_bi (z_sv sp (i + 1).toNat), y_bi (z_sv sp (i + 2).toNat)] m = some (.inr 0, m1) := c
      refine fin (by decide) ?_ (by decide)
      rw [y_C_313, y_E_313_0, c', e_bIx]
      exact y_E_313_17 (d + 30) 0 m1
theorem x_q1320 {s : x_St} (hst : x_st m s) (hg : ∀ k : Int, 0 ≤ k → k ≤ 5 → 0 ≤ i + k ∧ i + k < (sp 600001 : Int) ∧ sp 600001 ≤ 1000000) : x_go sp d i 1320 m := by
  obtain ⟨⟨L, R, A, B, t, lw, X⟩, w, f, N, q, P, K, G⟩ := s
  obtain ⟨hC, hR, hW⟩ := hst
  rcases x_lB z_w (x_162 (sp := sp) (d := d) hC hW (e_sv _).1 (e_sv _).2) hR hW with ⟨v, m1, m2, s', c, r, z0, zJ, st, n1, n2⟩ | ⟨e, k, v, m1, m2, s', hm, c, r, z0, st, n1, n2⟩
  · have c' : y_V sp true (d + 30) 162 [y_bo 10 0 0, y_bi (z_sv sp (i + 1).toNat)] m = y_rI v m1 := c
    have r' : y_V sp true (d + 31) 287 [y_bo 11 0 49, y_bi (z_sv sp (i + 1).toNat)] (y_sJ m1 105 0 (z_w v)) = y_rI v m2 := r
    have zJ' : y_mJ m2 105 0 = (z_w v) := zJ
    have wv : y_V sp true (d + 31) 314 [y_bo 10 0 0, y_bi (z_sv sp (i + 1).toNat), y_bo 101 1 105] m = y_rI 0 (y_sJ m1 105 0 (z_w v)) := by rw [y_C_314, y_E_314_0, c', e_bI, e_g (by decide), y_E_314_18]
    exact ⟨m2, s', by rw [y_E_317_1320, e_g (hg 1 (by decide) (by decide)), wv, e_bI, e_g (hg 1 (by decide) (by decide)), r', e_bI, x_178 (D := d + 30) z0, e_bI, if_pos rfl, y_E_317_1356, if_neg (fun z => z (by decide)), zJ', e_lc0, if_pos rfl, y_E_317_1373], st, n1, n2⟩
  · have r' : y_V sp true (d + 31) 287 [y_bo 11 0 49, y_bi (z_sv sp (i + 1).toNat)] m1 = y_rI v m2 := r
    have fin : k ≠ 0 → y_V sp true (d + 31) 314 [y_bo 10 0 0, y_bi (z_sv sp (i + 1).toNat), y_bo 101 1 105] m = y_rI k m1 → (-5 ≤ k ∧ k ≤ 5) → x_go sp d i 1320 m := fun hk wv hk5 => ⟨m2, s', by rw [y_E_317_1320, e_g (hg 1 (by decide) (by decide)), wv, e_bI, e_g (hg 1 (by decide) (by decide)), r', e_bI, x_178 (D := d + 30) z0, e_bI, if_pos rfl, y_E_317_1356, if_pos (by rw [z_w_id (by omega) (by omega)]; exact hk), y_E_317_1373], st, n1, n2⟩
    simp only [List.mem_cons, List.not_mem_nil, or_false, Prod.mk.injEq] at hm
    rcases hm with ⟨rfl, rfl⟩ | ⟨rfl, rfl⟩
    · have c' : y_V sp true (d + 30) 162 [y_bo 10 0 0, y_bi (z_sv sp (i + 1).toNat)] m = some (.inr 1, m1) := c
      refine fin (by decide) ?_ (by decide)
      rw [y_C_314, y_E_314_0, c', e_bIx]
      exact y_E_314_12 (d + 30) 0 m1
    · have c' : y_V sp true (d + 30) 162 [y_bo 10 0 0, y_bi (z_sv sp (i + 1).toNat)] m = some (.inr 2, m1) := c
      refine fin (by decide) ?_ (by decide)
      rw [y_C_314, y_E_314_0, c', e_bIx]
      exact y_E_314_15 (d + 30) 0 m1
theorem x_q1376 {s : x_St} (hst : x_st m s) (hg : ∀ k : Int, 0 ≤ k → k ≤ 5 → 0 ≤ i + k ∧ i + k < (sp 600001 : Int) ∧ sp 600001 ≤ 1000000) : x_go sp d i 1376 m := by
  obtain ⟨⟨L, R, A, B, t, lw, X⟩, w, f, N, q, P, K, G⟩ := s
  obtain ⟨hC, hR, hW⟩ := hst
  rcases x_lB z_w (x_163 (sp := sp) (d := d) hC hW) hR hW with ⟨v, m1, m2, s', c, r, z0, zJ, st, n1, n2⟩ | ⟨e, k, v, m1, m2, s', hm, c, r, z0, st, n1, n2⟩
  · have c' : y_V sp true (d + 30) 163 [y_bo 10 0 0] m = y_rI v m1 := c
    have r' : y_V sp true (d + 31) 288 [y_bo 11 0 49] (y_sJ m1 105 0 (z_w v)) = y_rI v m2 := r
    have zJ' : y_mJ m2 105 0 = (z_w v) := zJ
    have wv : y_V sp true (d + 31) 315 [y_bo 10 0 0, y_bo 101 1 105] m = y_rI 0 (y_sJ m1 105 0 (z_w v)) := by rw [y_C_315, y_E_315_0, c', e_bI, e_g (by decide), y_E_315_14]
    exact ⟨m2, s', by rw [y_E_317_1376, wv, e_bI, r', e_bI, x_178 (D := d + 30) z0, e_bI, if_pos rfl, y_E_317_1400, if_neg (fun z => z (by decide)), zJ', e_lc0, if_pos rfl, y_E_317_1417], st, n1, n2⟩
  · have r' : y_V sp true (d + 31) 288 [y_bo 11 0 49] m1 = y_rI v m2 := r
    have fin : k ≠ 0 → y_V sp true (d + 31) 315 [y_bo 10 0 0, y_bo 101 1 105] m = y_rI k m1 → (-5 ≤ k ∧ k ≤ 5) → x_go sp d i 1376 m := fun hk wv hk5 => ⟨m2, s', by rw [y_E_317_1376, wv, e_bI, r', e_bI, x_178 (D := d + 30) z0, e_bI, if_pos rfl, y_E_317_1400, if_pos (by rw [z_w_id (by omega) (by omega)]; exact hk), y_E_317_1417], st, n1, n2⟩
    simp only [List.mem_cons, List.not_mem_nil, or_false, Prod.mk.injEq] at hm
    obtain ⟨rfl, rfl⟩ := hm
    have c' : y_V sp true (d + 30) 163 [y_bo 10 0 0] m = some (.inr 2, m1) := c
    refine fin (by decide) ?_ (by decide)
    rw [y_C_315, y_E_315_0, c', e_bIx]
    exact y_E_315_11 (d + 30) 0 m1
theorem x_q1420 {s : x_St} (hst : x_st m s) (hg : ∀ k : Int, 0 ≤ k → k ≤ 5 → 0 ≤ i + k ∧ i + k < (sp 600001 : Int) ∧ sp 600001 ≤ 1000000) : x_go sp d i 1420 m := by
  obtain ⟨⟨L, R, A, B, t, lw, X⟩, w, f, N, q, P, K, G⟩ := s
  obtain ⟨hC, hR, hW⟩ := hst
  obtain ⟨v, m1, m2, s', c, r, st, n1, n2⟩ := x_lA (x_164 (sp := sp) (d := d + 1) hC hW) hR hW
  have c' : y_V sp true (d + 31) 164 [y_bo 10 0 0] m = y_rI v m1 := c
  have r' : y_V sp true (d + 31) 289 [y_bo 11 0 49] m1 = y_rI v m2 := r
  exact ⟨m2, s', by rw [y_E_317_1420, c', e_bI, r', e_bI, if_pos rfl], st, n1, n2⟩
theorem x_q1433 {s : x_St} (hst : x_st m s) (hg : ∀ k : Int, 0 ≤ k → k ≤ 5 → 0 ≤ i + k ∧ i + k < (sp 600001 : Int) ∧ sp 600001 ≤ 1000000) : x_go sp d i 1433 m := by
  obtain ⟨⟨L, R, A, B, t, lw, X⟩, w, f, N, q, P, K, G⟩ := s
  obtain ⟨hC, hR, hW⟩ := hst
  rcases x_lB z_w (x_165 (sp := sp) (d := d) hC hW (e_sv _).1 (e_sv _).2 (e_sv _).1 (e_sv _).2) hR hW with ⟨v, m1, m2, s', c, r, z0, zJ, st, n1, n2⟩ | ⟨e, k, v, m1, m2, s', hm, c, r, z0, st, n1, n2⟩
  · have c' : y_V sp true (d + 30) 165 [y_bo 10 0 0, y_bi (z_sv sp (i + 1).toNat), y_bi (z_sv sp (i + 2).toNat)] m = y_rI v m1 := c
    have r' : y_V sp true (d + 31) 291 [y_bo 11 0 49, y_bi (z_sv sp (i + 1).toNat), y_bi (z_sv sp (i + 2).toNat)] (y_sJ m1 105 0 (z_w v)) = y_rI v m2 := r
    have zJ' : y_mJ m2 105 0 = (z_w v) := zJ
    have wv : y_V sp true (d + 31) 316 [y_bo 10 0 0, y_bi (z_sv sp (i + 1).toNat), y_bi (z_sv sp (i + 2).toNat), y_bo 101 1 105] m = y_rI 0 (y_sJ m1 105 0 (z_w v)) := by rw [y_C_316, y_E_316_0, c', e_bI, e_g (by decide), y_E_316_17]
    exact ⟨m2, s', by rw [y_E_317_1433, e_g (hg 1 (by decide) (by decide)), e_g (hg 2 (by decide) (by decide)), wv, e_bI, e_g (hg 1 (by decide) (by decide)), e_g (hg 2 (by decide) (by decide)), r', e_bI, x_178 (D := d + 30) z0, e_bI, if_pos rfl, y_E_317_1481, if_neg (fun z => z (by decide)), zJ', e_lc0, if_pos rfl, y_E_317_1498], st, n1, n2⟩
  · have r' : y_V sp true (d + 31) 291 [y_bo 11 0 49, y_bi (z_sv sp (i + 1).toNat), y_bi (z_sv sp (i + 2).toNat)] m1 = y_rI v m2 := r
    have fin : k ≠ 0 → y_V sp true (d + 31) 316 [y_bo 10 0 0, y_bi (z_sv sp (i + 1).toNat), y_bi (z_sv sp (i + 2).toNat), y_bo 101 1 105] m = y_rI k m1 → (-5 ≤ k ∧ k ≤ 5) → x_go sp d i 1433 m := fun hk wv hk5 => ⟨m2, s', by rw [y_E_317_1433, e_g (hg 1 (by decide) (by decide)), e_g (hg 2 (by decide) (by decide)), wv, e_bI, e_g (hg 1 (by decide) (by decide)), e_g (hg 2 (by decide) (by decide)), r', e_bI, x_178 (D := d + 30) z0, e_bI, if_pos rfl, y_E_317_1481, if_pos (by rw [z_w_id (by omega) (by omega)]; exact hk), y_E_317_1498], st, n1, n2⟩
    simp only [List.mem_cons, List.not_mem_nil, or_false, Prod.mk.injEq] at hm
    obtain ⟨rfl, rfl⟩ := hm
    have c' : y_V sp true (d + 30) 165 [y_bo 10 0 0, y_bi (z_sv sp (i + 1).toNat), y_bi (z_sv sp (i + 2).toNat)] m = some (.inr 0, m1) := c
    refine fin (by decide) ?_ (by decide)
    rw [y_C_316, y_E_316_0, c', e_bIx]
    exact y_E_316_13 (d + 30) 0 m1
theorem x_q1501 {s : x_St} (hst : x_st m s) (hg : ∀ k : Int, 0 ≤ k → k ≤ 5 → 0 ≤ i + k ∧ i + k < (sp 600001 : Int) ∧ sp 600001 ≤ 1000000) : x_go sp d i 1501 m := by
  obtain ⟨⟨L, R, A, B, t, lw, X⟩, w, f, N, q, P, K, G⟩ := s
  obtain ⟨hC, hR, hW⟩ := hst
  obtain ⟨v, m1, m2, s', c, r, st, n1, n2⟩ := x_lA (x_166 (sp := sp) (d := d + 1) (x := z_sv sp (i + 1).toNat) hC hW) hR hW
  have c' : y_V sp true (d + 31) 166 [y_bo 10 0 0, y_bi (z_sv sp (i + 1).toNat)] m = y_rI v m1 := c
  have r' : y_V sp true (d + 31) 292 [y_bo 11 0 49, y_bi (z_sv sp (i + 1).toNat)] m1 = y_rI v m2 := r
  exact ⟨m2, s', by rw [y_E_317_1501, e_g (hg 1 (by decide) (by decide)), c', e_bI, e_g (hg 1 (by decide) (by decide)), r', e_bI, if_pos rfl], st, n1, n2⟩
theorem x_q1526 {s : x_St} (hst : x_st m s) (hg : ∀ k : Int, 0 ≤ k → k ≤ 5 → 0 ≤ i + k ∧ i + k < (sp 600001 : Int) ∧ sp 600001 ≤ 1000000) : x_go sp d i 1526 m := by
  obtain ⟨⟨L, R, A, B, t, lw, X⟩, w, f, N, q, P, K, G⟩ := s
  obtain ⟨hC, hR, hW⟩ := hst
  obtain ⟨v, m1, m2, s', c, r, st, n1, n2⟩ := x_lA (x_167 (sp := sp) (d := d + 1) hC hW) hR hW
  have c' : y_V sp true (d + 31) 167 [y_bo 10 0 0] m = y_rI v m1 := c
  have r' : y_V sp true (d + 31) 295 [y_bo 11 0 49] m1 = y_rI v m2 := r
  exact ⟨m2, s', by rw [y_E_317_1526, c', e_bI, r', e_bI, if_pos rfl], st, n1, n2⟩
theorem x_q1539 {s : x_St} (hst : x_st m s) (hg : ∀ k : Int, 0 ≤ k → k ≤ 5 → 0 ≤ i + k ∧ i + k < (sp 600001 : Int) ∧ sp 600001 ≤ 1000000) : x_go sp d i 1539 m := by
  obtain ⟨⟨L, R, A, B, t, lw, X⟩, w, f, N, q, P, K, G⟩ := s
  obtain ⟨hC, hR, hW⟩ := hst
  obtain ⟨v, m1, m2, s', c, r, st, n1, n2⟩ := x_lA (x_168 (sp := sp) (d := d + 1) hC hW) hR hW
  have c' : y_V sp true (d + 31) 168 [y_bo 10 0 0] m = y_rI v m1 := c
  have r' : y_V sp true (d + 31) 296 [y_bo 11 0 49] m1 = y_rI v m2 := r
  exact ⟨m2, s', by rw [y_E_317_1539, c', e_bI, r', e_bI, if_pos rfl], st, n1, n2⟩
theorem x_q1552 {s : x_St} (hst : x_st m s) (hg : ∀ k : Int, 0 ≤ k → k ≤ 5 → 0 ≤ i + k ∧ i + k < (sp 600001 : Int) ∧ sp 600001 ≤ 1000000) : x_go sp d i 1552 m := by
  obtain ⟨⟨L, R, A, B, t, lw, X⟩, w, f, N, q, P, K, G⟩ := s
  obtain ⟨hC, hR, hW⟩ := hst
  obtain ⟨v, m1, m2, s', c, r, st, n1, n2⟩ := x_lA (x_169 (sp := sp) (d := d + 1) hC hW (e_sv _).1 (e_sv _).2) hR hW
  have c' : y_V sp true (d + 31) 169 [y_bo 10 0 0, y_bi (z_sv sp (i + 1).toNat)] m = y_rI v m1 := c
  have r' : y_V sp true (d + 31) 297 [y_bo 11 0 49, y_bi (z_sv sp (i + 1).toNat)] m1 = y_rI v m2 := r
  exact ⟨m2, s', by rw [y_E_317_1552, e_g (hg 1 (by decide) (by decide)), c', e_bI, e_g (hg 1 (by decide) (by decide)), r', e_bI, if_pos rfl], st, n1, n2⟩
end Cases
