/-! ===== one call: the simple ones ===== -/
section Calls
variable {sp : Nat → Nat} {d : Nat} {m m1 m2 M : y_m} {L R A B t lw X N : Nat} {w w' : List Nat} {f : Nat → Int} {q x y : Int} {P : List (Nat × Nat)} {K : List (List Nat)} {G : List x_Gt}
theorem x_hR (h : x_Rf m L R A B t lw X w f N q P K G) : m_Ch m L R A B lw t := h.1.1
theorem x_eL (h : x_Rf m L R A B t lw X w f N q P K G) : y_mI m 52 0 = L := h.1.1.1
theorem x_eR (h : x_Rf m L R A B t lw X w f N q P K G) : y_mI m 52 1 = R := h.1.1.2.1
theorem x_elw (h : x_Rf m L R A B t lw X w f N q P K G) : y_mI m 52 4 = lw := h.1.1.2.2.2.2.1
theorem x_et (h : x_Rf m L R A B t lw X w f N q P K G) : y_mI m 52 6 = t := h.1.1.2.2.2.2.2.1
theorem x_V (h : x_Rf m L R A B t lw X w f N q P K G) : q_V m w := h.1.2.2.2
theorem x_146b (hK : c_K m L R A B t lw X w) (hx : ¬ c_rd L R t x) (h0 : -2147483648 ≤ x) (h1 : x < 2147483648) : y_V sp true (d + 4) 146 [y_bo 10 0 0, y_bi x] m = some (.inr 0, y_tm m) := by
  have s172 := (s_172 (sp := sp) (ph := true) (d := d) hK.eL hK.eR hK.et hK.l6 hK.r6 hK.t4 h0 h1).2 hx
  rw [y_C_146, y_E_146_0, s172]; rfl
theorem x_147b {z : Int} (hK : c_K m L R A B t lw X w) (hx : ¬ c_rd L R t x) (h0 : -2147483648 ≤ x) (h1 : x < 2147483648) : y_V sp true (d + 4) 147 [y_bo 10 0 0, y_bi x, y_bl z] m = some (.inr 0, y_tm m) := by
  have s172 := (s_172 (sp := sp) (ph := true) (d := d) hK.eL hK.eR hK.et hK.l6 hK.r6 hK.t4 h0 h1).2 hx
  rw [y_C_147, y_E_147_0, s172]; rfl
theorem x_148b (hK : c_K m L R A B t lw X w) (h0 : -2147483648 ≤ x) (h1 : x < 2147483648) (h2 : -2147483648 ≤ y) (h3 : y < 2147483648) (hx : ¬ (c_rd L R t x ∧ 0 ≤ y ∧ y ≤ 2)) : y_V sp true (d + 4) 148 [y_bo 10 0 0, y_bi x, y_bi y] m = some (.inr 0, y_tm m) := by
  by_cases c : c_rd L R t x
  · have s172 := (s_172 (sp := sp) (ph := true) (d := d) hK.eL hK.eR hK.et hK.l6 hK.r6 hK.t4 h0 h1).1 c
    rw [y_C_148, y_E_148_0, s172, e_bV, z_w_id h2 h3, if_neg (fun q => hx ⟨c, by omega⟩), if_neg (fun q => hx ⟨c, by omega⟩), if_neg (fun q => hx ⟨c, by omega⟩)]; rfl
  · have s172 := (s_172 (sp := sp) (ph := true) (d := d) hK.eL hK.eR hK.et hK.l6 hK.r6 hK.t4 h0 h1).2 c
    rw [y_C_148, y_E_148_0, s172]; rfl
theorem x_139 (hC : x_Cl m L R A B t lw X w f N q P K G) (hW : x_Wf L R t X P K G) : x_ok sp (d + 30) (d + 30) z_i 139 197 [] [] m ((L, R, A, B, t, lw, X), w, f, N, q, P, K, G) := by
  have c := s_139 (sp := sp) (ph := true) (d := d + 29) (m := m)
  rw [hC.2.2.2.1] at c
  refine x_ans (v := q) hW ⟨m, c, hC, x_cG_refl⟩ (fun M hM => ?_)
  have r := t_197 (sp := sp) (ph := true) (d := d + 29) (m := M)
  rw [hM.2.2.1] at r
  obtain ⟨a, b, e⟩ := x_r0 (z := 0) hM hW
  exact ⟨_, r, ⟨a, b⟩, e⟩
theorem x_140 (hC : x_Cl m L R A B t lw X w f N q P K G) (hW : x_Wf L R t X P K G) (h0 : -2147483648 ≤ x) (h1 : x < 2147483648) : x_ok sp (d + 30) (d + 31) z_i 140 198 [y_bi x] [(0, 1)] m ((L, R, A, B, t, lw, X), w, f, N, q, P, K, G) := by
  by_cases hx : 0 ≤ x ∧ x ≤ 7
  · obtain ⟨k, rfl⟩ := Int.eq_ofNat_of_zero_le hx.1
    refine x_ans (v := (u_tl L R A B t lw X w k : Nat)) hW ⟨m, s_140 (d := d + 29) hC.1.1 (by omega), hC, x_cG_refl⟩ (fun M hM => ?_)
    obtain ⟨a, b, e⟩ := x_r0 (z := 0) hM hW
    exact ⟨_, t_198 (d := d + 29) hM.1 (by omega), ⟨a, b⟩, e⟩
  · exact x_thr (v := 0) hC hW List.mem_cons_self (by decide) (s_140n (d := d + 29) h0 h1 hx) (fun M hM => t_198n (d := d + 29) h0 h1 hx)
theorem x_141 (hC : x_Cl m L R A B t lw X w f N q P K G) (hW : x_Wf L R t X P K G) (h0 : -2147483648 ≤ x) (h1 : x < 2147483648) (h2 : -2147483648 ≤ y) (h3 : y < 2147483648) : x_ok sp (d + 30) (d + 31) z_i 141 223 [y_bi x, y_bi y] [(1, 1), (0, 2)] m ((L, R, A, B, t, lw, X), w, f, N, q, P, K, G) := by
  have hl := hC.1.1.l6
  have hr := hC.1.1.r6
  by_cases hx : (0 ≤ x ∧ x < L + R) ∧ (0 ≤ y ∧ y < L + R)
  · obtain ⟨k, rfl⟩ := Int.eq_ofNat_of_zero_le hx.1.1
    obtain ⟨j, rfl⟩ := Int.eq_ofNat_of_zero_le hx.2.1
    by_cases c : k = j
    · subst c
      refine x_thr (e := 0) (k := 2) (v := 0) hC hW (List.mem_cons_of_mem _ List.mem_cons_self) (by decide) (s_141s (d := d + 26) hC.1.1 (by omega)) (fun M hM => ?_)
      have l := l_223 (sp := sp) (ph := true) (d := d + 28) (m := M) (x := k) (y := k) (x_eL hM) (x_eR hM) hl hr (by omega) (by omega)
      rw [if_pos rfl] at l
      exact l
    · refine x_ans (v := u_cu (m_S 0 L A B [w_e k j])) hW ⟨m, s_141 (d := d + 26) hC.1 (by omega) (by omega) c, hC, x_cG_refl⟩ (fun M hM => ?_)
      obtain ⟨m2, r1, r2, r3⟩ := t_223 (sp := sp) (ph := true) (d := d + 27) hM.1 (x := k) (y := j) (by omega) (by omega) c
      exact ⟨m2, r1, x_r1 hM hW r2 (fun a k q => by unfold u_Rh at q; unfold x_nr q_wr; omega), r3⟩
  · exact x_thr (e := 1) (k := 1) (v := 0) hC hW List.mem_cons_self (by decide) (s_141r (d := d + 26) hC.1.1 h0 h1 h2 h3 hx) (fun M hM => t_223r (d := d + 29) (x_eL hM) (x_eR hM) hl hr h0 h1 h2 h3 hx)
theorem x_142 (hC : x_Cl m L R A B t lw X w f N q P K G) (hW : x_Wf L R t X P K G) (h0 : -2147483648 ≤ x) (h1 : x < 2147483648) : x_ok sp (d + 30) (d + 30) z_i 142 224 [y_bi x] [] m ((L, R, A, B, t, lw, X), w, f, N, q, P, K, G) := by
  refine x_ans (v := u_at w x) hW ⟨m, s_142 (d := d + 27) hC.1.1.W h0 h1, hC, x_cG_refl⟩ (fun M hM => ?_)
  obtain ⟨a, b, e⟩ := x_r0 (z := 0) hM hW
  exact ⟨_, t_224 (d := d + 28) (x_V hM) h0 h1, ⟨a, b⟩, e⟩
theorem x_143 (hC : x_Cl m L R A B t lw X w f N q P K G) (hW : x_Wf L R t X P K G) : x_ok sp (d + 30) (d + 31) z_i 143 231 [] [(2, 1)] m ((L, R, A, B, t, lw, X), w, f, N, q, P, K, G) := by
  have hlt := u_w12 hC.1.1
  by_cases hn : w = []
  · subst hn
    exact x_thr (e := 2) (k := 1) (v := 0) hC hW List.mem_cons_self (by decide) (s_143n (d := d + 28) hC.1.1) (fun M hM => t_231n (d := d + 28) (x_V hM))
  · refine x_ans (v := q_judge L lw w 0 w.length) hW ⟨m, s_143 (d := d + 25) hC.1.1 hn, hC, x_cG_refl⟩ (fun M hM => ?_)
    obtain ⟨a, b, e⟩ := x_r0 (z := 0) hM hW
    exact ⟨_, t_231 (d := d + 26) hM.1 hn hlt, ⟨a, b⟩, e⟩
theorem x_144 (hC : x_Cl m L R A B t lw X w f N q P K G) (hW : x_Wf L R t X P K G) (h0 : -2147483648 ≤ x) (h1 : x < 2147483648) : x_ok sp (d + 30) (d + 31) z_i 144 234 [y_bi x] [(2, 1), (0, 2)] m ((L, R, A, B, t, lw, X), w, f, N, q, P, K, G) := by
  by_cases hn : w = []
  · subst hn
    exact x_thr (e := 2) (k := 1) (v := 0) hC hW List.mem_cons_self (by decide) (s_144n (d := d + 28) h0 h1 hC.1.1) (fun M hM => t_234n (d := d + 28) (x_V hM))
  · by_cases hx : 0 ≤ x ∧ x ≤ 4
    · obtain ⟨k, rfl⟩ := Int.eq_ofNat_of_zero_le hx.1
      have hlt := u_w12 hC.1.1
      obtain ⟨s, u, rfl, g1, g2, g3, g4, g5⟩ := c_K_E hC.1.1 hn
      refine x_ans (v := u_me L A B X (s :: u) (m_eu s s u) k) hW ⟨m, s_144 (d := d + 24) hC.1 hW.2.2.1 rfl (by omega), hC, x_cG_refl⟩ (fun M hM => ?_)
      obtain ⟨m2, r1, r2, r3⟩ := t_234 (sp := sp) (ph := true) (d := d + 25) hM.1 (k := k) rfl hlt g2 (by omega)
      exact ⟨m2, r1, x_r1 hM hW r2 (fun a k q => by unfold u_Rh at q; unfold x_nr q_wr; omega), r3⟩
    · exact x_thr (e := 0) (k := 2) (v := 0) hC hW (List.mem_cons_of_mem _ List.mem_cons_self) (by decide) (s_144r (d := d + 28) h0 h1 hC.1.1 hn hx) (fun M hM => t_234r (d := d + 28) (x_V hM) hn h0 h1 hx)
theorem x_145 (hC : x_Cl m L R A B t lw X w f N q P K G) (hW : x_Wf L R t X P K G) : x_ok sp (d + 30) (d + 31) z_l 145 249 [] [(2, 1)] m ((L, R, A, B, t, lw, X), w, f, N, q, P, K, G) := by
  have hK := hC.1.1
  have h12 := c_K_12 hK
  by_cases hn : w = []
  · subst hn
    exact x_thr (e := 2) (k := 1) (v := 0) hC hW List.mem_cons_self (by decide) (s_145a (d := d + 28) hK) (fun M hM => t_249c (d := d + 24) (x_V hM))
  · have h3 : 3 ≤ w.length := hK.len.resolve_left hn
    by_cases hj : q_judge L lw w 0 w.length = -1
    · refine x_ans (v := c_num L lw w) hW ?_ (fun M hM => ?_)
      · obtain ⟨m1, c1, c2, c3, c4⟩ := s_145c (sp := sp) (ph := true) (d := d + 23) hK hC.1.2.1 hn hj
        have hb := hK.b
        have hU := x_UC hC.1 c2 (fun a k q => by unfold c_P3 c_Pa c_P at q; omega) c3 c4 (x_Wy_C hC.1)
        exact ⟨m1, c1, x_c1 hC hW c2 (fun a k q => by unfold c_P3 c_Pa c_P at q; unfold x_nc; omega) hU⟩
      · obtain ⟨m2, r1, r2, r3⟩ := t_249a (sp := sp) (ph := true) (d := d + 24) (m := M) (x_eL hM) (x_elw hM) hK.l6 hK.w2 (x_V hM) h3 hK.nd h12 hj
        exact ⟨m2, r1, x_r1 hM hW r2 (fun a k q => by unfold r_P2 r_P at q; unfold x_nr q_wr; omega), r3⟩
    · refine x_ans (v := -1) hW ⟨m, s_145b (d := d + 25) hK hn hj, hC, x_cG_refl⟩ (fun M hM => ?_)
      obtain ⟨a, b, e⟩ := x_r0 (z := 0) hM hW
      exact ⟨_, t_249b (d := d + 24) (x_eL hM) (x_elw hM) hK.l6 hK.w2 (x_V hM) hn h12 hj, ⟨a, b⟩, e⟩
theorem x_146 (hC : x_Cl m L R A B t lw X w f N q P K G) (hW : x_Wf L R t X P K G) (h0 : -2147483648 ≤ x) (h1 : x < 2147483648) : x_ok sp (d + 30) (d + 31) z_l 146 243 [y_bi x] [(0, 1)] m ((L, R, A, B, t, lw, X), w, f, N, q, P, K, G) := by
  have hK := hC.1.1
  by_cases hx : c_rd L R t x
  · refine x_ans (v := c_cnt L lw x.toNat) hW ?_ (fun M hM => ?_)
    · obtain ⟨m1, c1, c2, c3⟩ := s_146 (sp := sp) (ph := true) (d := d + 23) hK hC.1.2.1 hx h0 h1
      have hb := hK.b
      have hU := x_UC hC.1 c2 (fun a k q => by unfold c_P at q; omega) c3 (q_W_F hK.W c2 (by unfold c_P; omega) (fun k => by unfold c_P; omega)) (x_Wy_C hC.1)
      exact ⟨m1, c1, x_c1 hC hW c2 (fun a k q => by unfold c_P at q; unfold x_nc; omega) hU⟩
    · obtain ⟨m2, r1, r2, r3⟩ := t_243a (sp := sp) (ph := true) (d := d + 23) (m := M) (x_eL hM) (x_eR hM) (x_et hM) (x_elw hM) hK.l6 hK.r6 hK.t4 hK.w2 h0 h1 hx
      exact ⟨m2, r1, x_r1 hM hW r2 (fun a k q => by unfold r_P at q; unfold x_nr q_wr; omega), r3⟩
  · exact x_thr (e := 0) (k := 1) (v := 0) hC hW List.mem_cons_self (by decide) (x_146b (d := d + 26) hK hx h0 h1) (fun M hM => t_243b (d := d + 23) (x_eL hM) (x_eR hM) (x_et hM) hK.l6 hK.r6 hK.t4 h0 h1 hx)
end Calls
