/-! ===== one call: pictures, midst, weeks, images, boots ===== -/
section Calls
variable {sp : Nat → Nat} {d : Nat} {m m1 m2 M : y_m} {L R A B t lw X N N' : Nat} {w w' : List Nat} {f f' : Nat → Int} {q q' x y : Int} {P P' : List (Nat × Nat)} {K K' : List (List Nat)} {G G' : List x_Gt}
theorem x_pg (hk : u_Pk L R t P) (h6 : L ≤ 6) (hR : R ≤ 6) (h2 : 2 ≤ P.length) : u_pg P := ⟨hk.2.1, fun h hh => by have := (hk.2.2 h hh).1; omega, h2, hk.1⟩
theorem x_RP (hM : x_Rf M L R A B t lw X w f N q P K G) (hk : u_Pk L R t P) (h6 : L ≤ 6) (hR : R ≤ 6) (h2 : lw ≤ 2) : u_R0 M L lw P := ⟨x_eL hM, h6, x_elw hM, h2, hM.2.2.2.1, hk.1, fun h hh => by have := (hk.2.2 h hh).1; omega⟩
theorem x_158 (hC : x_Cl m L R A B t lw X w f N q P K G) (hW : x_Wf L R t X P K G) : x_ok sp (d + 30) (d + 30) z_i 158 280 [] [] m ((L, R, A, B, t, lw, X), w, f, N, q, P, K, G) := by
  have hK := hC.1.1
  obtain ⟨m1, c1, c2⟩ := s_158 (sp := sp) (ph := true) (d := d + 9) hK hC.2.2.2.2.1 hW.2.2.2.1
  refine x_ans (v := if P.length < 2 then 0 else ((u_xwi L lw P).length : Int)) hW ⟨m1, c1, x_c2 hC hW c2 (fun a k q => by unfold u_wW at q; unfold x_nc; omega)⟩ (fun M hM => ?_)
  obtain ⟨m3, r1, r2, r3⟩ := t_280 (sp := sp) (ph := true) (d := d + 9) (x_RP hM hW.2.2.2.1 hK.l6 hK.r6 hK.w2)
  have e : (((if P.length < 2 then 0 else u_ct L lw (u_xrw P) : Nat)) : Int) = (if P.length < 2 then 0 else ((u_xwi L lw P).length : Int)) := by
    by_cases c : P.length < 2
    · rw [if_pos c, if_pos c]; rfl
    · rw [if_neg c, if_neg c, u_within (x_pg hW.2.2.2.1 hK.l6 hK.r6 (by omega))]
  rw [e] at r1
  exact ⟨m3, r1, x_r1 hM hW r2 (fun a k q => by unfold u_hG at q; unfold x_nr q_wr; omega), r3⟩
theorem x_gu_way {v : List Nat} (hk : u_Pk L R t P) (h6 : L ≤ 6) (hR : R ≤ 6) (h2 : 2 ≤ P.length) (hv : v ∈ u_gu L lw P) : x_Wy L R t v := by
  obtain ⟨⟨g1, g2, g3, -⟩, -⟩ := (u_gu_mem (x_pg hk h6 hR h2)).mp hv
  have hl := hk.1
  refine ⟨fun h hh => ?_, g2, Or.inr (by omega), by omega⟩
  have := hk.2.2 h (g3 h hh)
  rw [c_wh_bit, Bool.and_eq_true, Bool.not_eq_true']
  exact ⟨decide_eq_true this.1, this.2⟩
theorem x_159 (hC : x_Cl m L R A B t lw X w f N q P K G) (hW : x_Wf L R t X P K G) : x_ok sp (d + 30) (d + 30) z_i 159 281 [] [] m ((L, R, A, B, t, lw, X), w, f, N, q, P, K, G) := by
  have hK := hC.1.1
  have hb := hK.b
  have cl := s_159 (sp := sp) (ph := true) (d := d + 9) hK hC.2.2.2.2.1 hW.2.2.2.1
  by_cases c : P.length < 2 ∨ u_gu L lw P = []
  · obtain ⟨m1, c1, c2⟩ := cl.1 c
    refine x_ans (v := -1) hW ⟨m1, c1, x_c2 hC hW c2 (fun a k q => by unfold u_wW at q; unfold x_nc; omega)⟩ (fun M hM => ?_)
    have c' : P.length < 2 ∨ u_ft L lw (2 * P.length) none (u_xrw P) = none := by
      by_cases c9 : P.length < 2
      · exact Or.inl c9
      · exact Or.inr ((u_guess (x_pg hW.2.2.2.1 hK.l6 hK.r6 (by omega))).1.mpr (c.resolve_left c9))
    obtain ⟨m3, r1, r2, r3⟩ := (t_281 (sp := sp) (ph := true) (d := d + 9) (x_RP hM hW.2.2.2.1 hK.l6 hK.r6 hK.w2)).1 c'
    exact ⟨m3, r1, x_r1 hM hW r2 (fun a k q => by unfold u_hG at q; unfold x_nr q_wr; omega), r3⟩
  · have h2 : 2 ≤ P.length := by
      by_cases c9 : P.length < 2
      · exact absurd (Or.inl c9) c
      · omega
    have hg := x_pg hW.2.2.2.1 hK.l6 hK.r6 h2
    obtain ⟨v, l, hv⟩ := List.exists_cons_of_ne_nil (fun z => c (Or.inr z))
    obtain ⟨m1, c1, c2, c3⟩ := cl.2 h2 v l hv
    have hy := x_gu_way (L := L) (R := R) (t := t) (lw := lw) hW.2.2.2.1 hK.l6 hK.r6 h2 (v := v) (by rw [hv]; exact List.mem_cons_self)
    refine x_anw (w' := v) (v := (v.length : Int)) hW ?_ (fun M hM => ?_)
    · have hU := x_UC hC.1 c2 (fun a k q => by unfold u_wW at q; omega) (c_Ws_F hC.1.2.1 c2 (by unfold u_wW; omega) (fun k => by unfold u_wW; omega)) c3 hy
      exact ⟨m1, c1, x_c1 hC hW c2 (fun a k q => by unfold u_wW at q; unfold x_nc; omega) hU⟩
    · obtain ⟨g1, g2⟩ := u_guess (L := L) (lw := lw) hg
      cases hf : u_ft L lw (2 * P.length) none (u_xrw P) with
      | none => exact absurd (Or.inr (g1.mp hf)) c
      | some b =>
        have e := g2 b v l hf hv
        subst e
        obtain ⟨m3, r1, r2, r3, r4⟩ := (t_281 (sp := sp) (ph := true) (d := d + 9) (x_RP hM hW.2.2.2.1 hK.l6 hK.r6 hK.w2)).2 h2 b hf
        exact ⟨m3, r1, x_r2 hM hW r2 (fun a k q => by unfold u_hI at q; unfold x_nr q_wr; omega) r4, r3⟩
theorem x_160 (hC : x_Cl m L R A B t lw X w f N q P K G) (hW : x_Wf L R t X P K G) : x_ok sp (d + 30) (d + 31) z_i 160 283 [] [(2, 1)] m ((L, R, A, B, t, lw, X), w, f, N, q, P, K, G) := by
  have hK := hC.1.1
  by_cases hn : w = []
  · subst hn
    exact x_thr (e := 2) (k := 1) (v := 0) hC hW List.mem_cons_self (by decide) (s_160n (d := d + 28) hK) (fun M hM => t_283n (d := d + 28) (x_V hM))
  · have h12 := c_K_12 hK
    refine x_ans (v := u_se P w) hW ⟨m, s_160 (d := d + 25) hK hn hC.2.2.2.2.1 hW.2.2.2.1, hC, x_cG_refl⟩ (fun M hM => ?_)
    obtain ⟨a, b, e⟩ := x_r0 (z := 0) hM hW
    exact ⟨_, t_283 (d := d + 28) hM.2.2.2.1 hW.2.2.2.1.1 (fun h hh => by have := (hW.2.2.2.1.2.2 h hh).1; have := hK.l6; have := hK.r6; omega) (x_V hM) hn h12, ⟨a, b⟩, e⟩
theorem x_161 (hC : x_Cl m L R A B t lw X w f N q P K G) (hW : x_Wf L R t X P K G) (h0 : -2147483648 ≤ x) (h1 : x < 2147483648) (h2 : -2147483648 ≤ y) (h3 : y < 2147483648) : x_ok sp (d + 30) (d + 31) z_i 161 285 [y_bi x, y_bi y] [(2, 1), (0, 2)] m ((L, R, A, B, t, lw, X), w, f, N, q, P, K, G) := by
  have hK := hC.1.1
  by_cases hn : w = []
  · subst hn
    exact x_thr (e := 2) (k := 1) (v := 0) hC hW List.mem_cons_self (by decide) (s_161n (d := d + 28) hK) (fun M hM => t_285n (d := d + 28) (x_V hM))
  · by_cases hx : (0 ≤ x ∧ x ≤ 999) ∧ (0 ≤ y ∧ y ≤ 1)
    · obtain ⟨k, rfl⟩ := Int.eq_ofNat_of_zero_le hx.1.1
      obtain ⟨j, rfl⟩ := Int.eq_ofNat_of_zero_le hx.2.1
      have hlt := u_w12 hK
      obtain ⟨s, u, rfl, g1, g2, g3, g4, g5⟩ := c_K_E hK hn
      refine x_ans (v := u_kn L A B (s :: u) k j) hW ⟨m, s_161k (d := d + 24) hC.1 rfl (by omega) (by omega), hC, x_cG_refl⟩ (fun M hM => ?_)
      obtain ⟨m3, r1, r2, r3⟩ := t_285 (sp := sp) (ph := true) (d := d + 26) hM.1 (x := k) (y := j) (by omega) (by omega) rfl hlt g2
      exact ⟨m3, r1, x_r1 hM hW r2 (fun a k q => by unfold m_9 at q; unfold x_nr q_wr; omega), r3⟩
    · refine x_thr (e := 0) (k := 2) (v := 0) hC hW (List.mem_cons_of_mem _ List.mem_cons_self) (by decide) (s_161r (d := d + 28) hK hn h0 h1 h2 h3 hx) (fun M hM => ?_)
      have l := l_285 (sp := sp) (ph := true) (d := d + 28) (m := M) (x := x) (y := y) (x_V hM) hn h0 h1 h2 h3
      rw [if_neg hx] at l
      exact l
theorem x_162 (hC : x_Cl m L R A B t lw X w f N q P K G) (hW : x_Wf L R t X P K G) (h0 : -2147483648 ≤ x) (h1 : x < 2147483648) : x_ok sp (d + 30) (d + 31) z_i 162 287 [y_bi x] [(1, 1), (2, 2)] m ((L, R, A, B, t, lw, X), w, f, N, q, P, K, G) := by
  have hK := hC.1.1
  have ref := fun (M : y_m) (hM : x_Rf M L R A B t lw X w f N q P K G) => l_287 (sp := sp) (ph := true) (d := d + 28) (m := M) (x := x) (x_eL hM) (x_eR hM) hK.l6 hK.r6 (x_V hM) h0 h1
  by_cases hx : 0 ≤ x ∧ x < L + R
  · by_cases hn : w = []
    · obtain ⟨k, rfl⟩ := Int.eq_ofNat_of_zero_le hx.1
      refine x_thr (e := 2) (k := 2) (v := 0) hC hW (List.mem_cons_of_mem _ List.mem_cons_self) (by decide) ?_ (fun M hM => ?_)
      · subst hn
        exact s_162n (d := d + 26) hK (by omega)
      · have l := ref M hM
        rw [if_pos hx, if_pos hn] at l
        exact l
    · obtain ⟨k, rfl⟩ := Int.eq_ofNat_of_zero_le hx.1
      refine x_ans (v := q_wear L w k) hW ⟨m, s_162 (d := d + 25) hK hn (by omega), hC, x_cG_refl⟩ (fun M hM => ?_)
      obtain ⟨a, b, e⟩ := x_r0 (z := 0) hM hW
      exact ⟨_, t_287 (d := d + 27) hM.1 hn (u_w12 hK) (by omega), ⟨a, b⟩, e⟩
  · refine x_thr (e := 1) (k := 1) (v := 0) hC hW List.mem_cons_self (by decide) (s_162r (d := d + 26) hK h0 h1 hx) (fun M hM => ?_)
    have l := ref M hM
    rw [if_neg hx] at l
    exact l
theorem x_165 (hC : x_Cl m L R A B t lw X w f N q P K G) (hW : x_Wf L R t X P K G) (h0 : -2147483648 ≤ x) (h1 : x < 2147483648) (h2 : -2147483648 ≤ y) (h3 : y < 2147483648) : x_ok sp (d + 30) (d + 31) z_i 165 291 [y_bi x, y_bi y] [(0, 1)] m ((L, R, A, B, t, lw, X), w, f, N, q, P, K, G) := by
  have hK := hC.1.1
  have hk4 := hW.2.2.2.2.1.1
  have ref := fun (M : y_m) (hM : x_Rf M L R A B t lw X w f N q P K G) => l_291 (sp := sp) (ph := true) (d := d + 29) (m := M) (x := x) (y := y) hM.2.2.2.2.1 hk4 h0 h1 h2 h3
  by_cases hx : (1 ≤ x ∧ x ≤ 12) ∧ (0 ≤ y ∧ y ≤ 1)
  · by_cases hn : K = []
    · obtain ⟨k, rfl⟩ := Int.eq_ofNat_of_zero_le (show 0 ≤ x by omega)
      obtain ⟨j, rfl⟩ := Int.eq_ofNat_of_zero_le hx.2.1
      have c := l_165 (sp := sp) (ph := true) (d := d + 29) (x := k) (y := j) hC.2.2.2.2.2.1 hk4 (by omega) (by omega) (by omega)
      rw [if_pos hn] at c
      refine x_ans (v := -1) hW ⟨m, c, hC, x_cG_refl⟩ (fun M hM => ?_)
      obtain ⟨a, b, e⟩ := x_r0 (z := 0) hM hW
      have l := ref M hM
      rw [if_pos hx, if_pos hn] at l
      exact ⟨_, l, ⟨a, b⟩, e⟩
    · obtain ⟨k, rfl⟩ := Int.eq_ofNat_of_zero_le (show 0 ≤ x by omega)
      obtain ⟨j, rfl⟩ := Int.eq_ofNat_of_zero_le hx.2.1
      obtain ⟨m1, b, c1, c2, c3⟩ := s_165 (sp := sp) (ph := true) (d := d + 19) (x := k) (y := j) hC.2.2.2.2.2.1 hk4 hn (by omega) (by omega) (by omega)
      refine x_ans (v := if j = 0 then b.1 else b.2) hW ⟨m1, c1, x_c2 hC hW c3 (fun a k q => by unfold x_wF2 at q; unfold x_nc; omega)⟩ (fun M hM => ?_)
      obtain ⟨m3, b', r1, r2, r3, r4⟩ := t_291 (sp := sp) (ph := true) (d := d + 21) (x := k) (y := j) hM.2.2.2.2.1 hW.2.2.2.2.1 (x_eL hM) (x_eR hM) hK.l6 hK.r6 hn (by omega) (by omega) (by omega)
      have e : b' = b := Option.some.inj (r2.symm.trans c2)
      subst e
      exact ⟨m3, r1, x_r1 hM hW r3 (fun a k q => by unfold x_nr q_wr; omega), r4⟩
  · refine x_thr (e := 0) (k := 1) (v := 0) hC hW List.mem_cons_self (by decide) (s_165r (d := d + 29) h0 h1 h2 h3 hx) (fun M hM => ?_)
    have l := ref M hM
    rw [if_neg hx] at l
    exact l
theorem x_166 (hC : x_Cl m L R A B t lw X w f N q P K G) (hW : x_Wf L R t X P K G) : x_ok sp (d + 30) (d + 30) z_i 166 292 [y_bi x] [] m ((L, R, A, B, t, lw, X), w, f, N, q, P, K, G) := by
  have hK := hC.1.1
  have hb := hK.b
  have hlt := c_wh_lt (t := t) hK.l6 hK.r6
  by_cases hc : 3 ≤ n_pop (c_wh L R t) ∧ 1 ≤ c_cnt L lw (c_wh L R t)
  · obtain ⟨u, hu, m1, c1, c2, c3, c4⟩ := s_166b (sp := sp) (ph := true) (d := d + 23) (x := x) hK hC.1.2.1 hc.1 hc.2
    have hnn : 0 ≤ z_iand x 2147483647 / 2 % c_cnt L lw (c_wh L R t) := Int.emod_nonneg _ (by omega)
    have hy := x_un_way (L := L) (R := R) (t := t) hlt (fun j hj => hj) hc.1 hnn hu
    refine x_anw (w' := n_low (c_wh L R t) :: u) (v := (u.length : Int) + 1) hW ?_ (fun M hM => ?_)
    · have hU := x_UC hC.1 c2 (fun a k q => by unfold c_P3 c_Pa c_P at q; omega) c3 c4 hy
      exact ⟨m1, c1, x_c1 hC hW c2 (fun a k q => by unfold c_P3 c_Pa c_P at q; unfold x_nc; omega) hU⟩
    · obtain ⟨m2, r1, r2, r3, r4⟩ := t_292b (sp := sp) (ph := true) (d := d + 22) (m := M) (x := x) (x_eL hM) (x_eR hM) (x_et hM) (x_elw hM) hK.l6 hK.r6 hK.t4 hK.w2 hc.1 hc.2 hu
      exact ⟨m2, r1, x_r2 hM hW r2 (fun a k q => by unfold r_P3 r_P at q; unfold x_nr q_wr; omega) r4, r3⟩
  · obtain ⟨m1, c1, c2, c3, c4⟩ := s_166a (sp := sp) (ph := true) (d := d + 23) (x := x) hK hC.1.2.1 hc
    refine x_ans (v := -1) hW ?_ (fun M hM => ?_)
    · have hU := x_UC hC.1 c2 (fun a k q => by unfold c_P3 c_Pa c_P at q; omega) c3 c4 (x_Wy_C hC.1)
      exact ⟨m1, c1, x_c1 hC hW c2 (fun a k q => by unfold c_P3 c_Pa c_P at q; unfold x_nc; omega) hU⟩
    · obtain ⟨m2, r1, r2, r3, r4⟩ := t_292a (sp := sp) (ph := true) (d := d + 22) (m := M) (x := x) (x_eL hM) (x_eR hM) (x_et hM) (x_elw hM) hK.l6 hK.r6 hK.t4 hK.w2 (x_V hM) hc
      exact ⟨m2, r1, x_r2 hM hW r2 (fun a k q => by unfold r_P3 r_P at q; unfold x_nr q_wr; omega) r4, r3⟩
theorem x_169 (hC : x_Cl m L R A B t lw X w f N q P K G) (hW : x_Wf L R t X P K G) (h0 : -2147483648 ≤ x) (h1 : x < 2147483648) : x_ok sp (d + 30) (d + 30) z_i 169 297 [y_bi x] [] m ((L, R, A, B, t, lw, X), w, f, N, q, P, K, G) := by
  have c := s_169 (sp := sp) (ph := true) (d := d + 28) (m := m) h0 h1
  obtain ⟨r1, r2, r3, r4, r5, r6, r7, r8⟩ := hC
  rw [r6.1, r5.1, r7, r3.1] at c
  refine x_ans (v := u_sm (K.length : Int) (P.length : Int) (G.length : Int) (N : Int) x) hW ⟨m, c, ⟨r1, r2, r3, r4, r5, r6, r7, r8⟩, x_cG_refl⟩ (fun M hM => ?_)
  have r := t_297 (sp := sp) (ph := true) (d := d + 29) (m := M) h0 h1
  rw [hM.2.2.2.2.1.1, hM.2.2.2.1.1, hM.2.2.2.2.2.1, hM.2.1.1] at r
  obtain ⟨a, b, e⟩ := x_r0 (z := 0) hM hW
  exact ⟨_, r, ⟨a, b⟩, e⟩
end Calls
