/-! ===== one call: rounds ===== -/
theorem c_un2_mem {L lw s sec : Nat} {first : Bool} : ∀ (n last : Nat) (i : Bool) (rest : Nat) (left : Int) (u : List Nat), rest < 4096 → 0 ≤ left → c_un2 L lw s sec first n last i rest left = some u → u.Nodup ∧ ∀ x ∈ u, rest.testBit x = true
  | 0, _, _, _, _, u, _, _, h => by
    cases h
    exact ⟨List.nodup_nil, fun x hx => (by cases hx)⟩
  | n + 1, last, i, rest, left, u, hr, h0, h => by
    rw [c_un2] at h
    have b := c_pk_b (f := c_f2 L lw s sec first rest last i) (fun j => (c_f2_b hr j).1) 12 0 left h0
    generalize c_pk (c_f2 L lw s sec first rest last i) 12 0 left = z at *
    by_cases c : z.1 < 12
    · rw [if_pos c] at h
      obtain ⟨t, h1, h2⟩ := Option.map_eq_some_iff.mp h
      have pos := b.2.2.2.2 (by omega)
      have hb : rest.testBit z.1 = true := by
        by_cases q : rest.testBit z.1 = true
        · exact q
        · have := c_f2_0 (L := L) (lw := lw) (s := s) (sec := sec) (first := first) (last := last) (i := i) z.1 q
          omega
      obtain ⟨g1, g2⟩ := c_un2_mem n _ _ _ _ t (Nat.lt_of_le_of_lt (w_rm_le _ _) hr) b.1 h1
      rw [← h2]
      refine ⟨List.nodup_cons.mpr ⟨fun q => ?_, g1⟩, fun x hx => ?_⟩
      · have := g2 _ q
        rw [w_rm_bit] at this
        simp at this
      · rcases List.mem_cons.mp hx with q | q
        · rw [q]; exact hb
        · have := g2 x q
          rw [w_rm_bit, Bool.and_eq_true] at this
          exact this.1
    · rw [if_neg c] at h
      cases h
theorem c_un1_mem {L lw s rest : Nat} {left : Int} {u : List Nat} (hr : rest < 4096) (h0 : 0 ≤ left) (h : c_un1 L lw s rest left = some u) : u.Nodup ∧ ∀ x ∈ u, rest.testBit x = true := by
  unfold c_un1 at h
  have b := c_pk_b (f := c_f1 L lw s rest) (fun j => (c_f1_b hr j).1) 12 0 left h0
  generalize c_pk (c_f1 L lw s rest) 12 0 left = z at *
  by_cases c : z.1 < 12
  · rw [if_pos c] at h
    obtain ⟨t, h1, h2⟩ := Option.map_eq_some_iff.mp h
    have pos := b.2.2.2.2 (by omega)
    have hb : rest.testBit z.1 = true := by
      by_cases q : rest.testBit z.1 = true
      · exact q
      · have := c_f1_0 (L := L) (lw := lw) (s := s) z.1 q
        omega
    obtain ⟨g1, g2⟩ := c_un2_mem _ _ _ _ _ t (Nat.lt_of_le_of_lt (w_rm_le _ _) hr) b.1 h1
    rw [← h2]
    refine ⟨List.nodup_cons.mpr ⟨fun q => ?_, g1⟩, fun x hx => ?_⟩
    · have := g2 _ q
      rw [w_rm_bit] at this
      simp at this
    · rcases List.mem_cons.mp hx with q | q
      · rw [q]; exact hb
      · have := g2 x q
        rw [w_rm_bit, Bool.and_eq_true] at this
        exact this.1
  · rw [if_neg c] at h
    cases h
section Calls
variable {sp : Nat → Nat} {d : Nat} {m m1 m2 M : y_m} {L R A B t lw X N : Nat} {w w' : List Nat} {f : Nat → Int} {q x y : Int} {P : List (Nat × Nat)} {K : List (List Nat)} {G : List x_Gt}
theorem x_un_way {S : Nat} {left : Int} {u : List Nat} (hS : S < 4096) (hW : ∀ j, S.testBit j = true → (c_wh L R t).testBit j = true) (h3 : 3 ≤ n_pop S) (h0 : 0 ≤ left) (h : c_un1 L lw (n_low S) (w_rm S (n_low S)) left = some u) : x_Wy L R t (n_low S :: u) := by
  have hS0 : 0 < S := by
    by_cases q : S = 0
    · subst q
      exact absurd h3 (by decide)
    · omega
  have lo := w_low hS hS0
  have hp := n_pop_rm hS lo.2.2.1
  have hp12 := n_pop_le hS
  have hl := c_un1_len h
  obtain ⟨g1, g2⟩ := c_un1_mem (Nat.lt_of_le_of_lt (w_rm_le _ _) hS) h0 h
  refine ⟨fun x hx => ?_, List.nodup_cons.mpr ⟨fun q => ?_, g1⟩, Or.inr (by rw [List.length_cons]; omega), by rw [List.length_cons]; omega⟩
  · rcases List.mem_cons.mp hx with q | q
    · rw [q]; exact hW _ lo.2.2.1
    · have := g2 x q
      rw [w_rm_bit, Bool.and_eq_true] at this
      exact hW _ this.1
  · have := g2 _ q
    rw [w_rm_bit] at this
    simp at this
theorem x_rd_bit (hx : c_rd L R t x) : ∀ j, x.toNat.testBit j = true → (c_wh L R t).testBit j = true := n_bd_0.mp hx.2.1
theorem x_147 {z : Int} (hC : x_Cl m L R A B t lw X w f N q P K G) (hW : x_Wf L R t X P K G) (h0 : -2147483648 ≤ x) (h1 : x < 2147483648) (hz0 : -9223372036854775808 ≤ z) (hz1 : z < 9223372036854775808) : x_ok sp (d + 30) (d + 31) z_i 147 245 [y_bi x, y_bl z] [(0, 1)] m ((L, R, A, B, t, lw, X), w, f, N, q, P, K, G) := by
  have hK := hC.1.1
  have hb := hK.b
  by_cases hx : c_rd L R t x
  · have hlt := c_rd_lt hK.l6 hK.r6 hx.2.1
    by_cases hu : 0 ≤ z ∧ ∃ u, c_un1 L lw (n_low x.toNat) (w_rm x.toNat (n_low x.toNat)) z = some u
    · obtain ⟨hz, u, hu⟩ := hu
      refine x_anw (w' := n_low x.toNat :: u) (v := (u.length : Int) + 1) hW ?_ (fun M hM => ?_)
      · obtain ⟨m1, c1, c2, c3, c4⟩ := (s_147 (sp := sp) (ph := true) (d := d + 23) hK hC.1.2.1 hx h0 h1 hz0 hz1).1 u hz hu
        have hU := x_UC hC.1 c2 (fun a k q => by unfold c_P3 c_Pa c_P at q; omega) c3 c4 (x_un_way hlt (x_rd_bit hx) hx.2.2 hz hu)
        exact ⟨m1, c1, x_c1 hC hW c2 (fun a k q => by unfold c_P3 c_Pa c_P at q; unfold x_nc; omega) hU⟩
      · obtain ⟨m2, r1, r2, r3, r4⟩ := (t_245 (sp := sp) (ph := true) (d := d + 23) (m := M) (x_eL hM) (x_eR hM) (x_et hM) (x_elw hM) hK.l6 hK.r6 hK.t4 hK.w2 h0 h1 hx (x_V hM) hz0 hz1).1 u hz hu
        exact ⟨m2, r1, x_r2 hM hW r2 (fun a k q => by unfold r_P3 r_P at q; unfold x_nr q_wr; omega) r4, r3⟩
    · have hu' : z < 0 ∨ c_un1 L lw (n_low x.toNat) (w_rm x.toNat (n_low x.toNat)) z = none := by
        by_cases c : z < 0
        · exact Or.inl c
        · refine Or.inr ?_
          cases e : c_un1 L lw (n_low x.toNat) (w_rm x.toNat (n_low x.toNat)) z with
          | none => rfl
          | some u => exact absurd ⟨by omega, u, e⟩ hu
      refine x_ans (v := -1) hW ?_ (fun M hM => ?_)
      · obtain ⟨m1, c1, c2, c3, c4⟩ := (s_147 (sp := sp) (ph := true) (d := d + 23) hK hC.1.2.1 hx h0 h1 hz0 hz1).2 hu'
        have hU := x_UC hC.1 c2 (fun a k q => by unfold c_P3 c_Pa c_P at q; omega) c3 c4 (x_Wy_C hC.1)
        exact ⟨m1, c1, x_c1 hC hW c2 (fun a k q => by unfold c_P3 c_Pa c_P at q; unfold x_nc; omega) hU⟩
      · obtain ⟨m2, r1, r2, r3, r4⟩ := (t_245 (sp := sp) (ph := true) (d := d + 23) (m := M) (x_eL hM) (x_eR hM) (x_et hM) (x_elw hM) hK.l6 hK.r6 hK.t4 hK.w2 h0 h1 hx (x_V hM) hz0 hz1).2 hu'
        exact ⟨m2, r1, x_r2 hM hW r2 (fun a k q => by unfold r_P3 r_P at q; unfold x_nr q_wr; omega) r4, r3⟩
  · exact x_thr (e := 0) (k := 1) (v := 0) hC hW List.mem_cons_self (by decide) (x_147b (d := d + 26) hK hx h0 h1) (fun M hM => t_245b (d := d + 23) (x_eL hM) (x_eR hM) (x_et hM) hK.l6 hK.r6 hK.t4 h0 h1 hx)
theorem x_148 (hC : x_Cl m L R A B t lw X w f N q P K G) (hW : x_Wf L R t X P K G) (h0 : -2147483648 ≤ x) (h1 : x < 2147483648) (h2 : -2147483648 ≤ y) (h3 : y < 2147483648) : x_ok sp (d + 30) (d + 31) z_i 148 255 [y_bi x, y_bi y] [(0, 1)] m ((L, R, A, B, t, lw, X), w, f, N, q, P, K, G) := by
  have hK := hC.1.1
  have hb := hK.b
  by_cases hx : c_rd L R t x ∧ 0 ≤ y ∧ y ≤ 2
  · obtain ⟨hx, hy⟩ := hx
    obtain ⟨k, rfl⟩ := Int.eq_ofNat_of_zero_le hy.1
    have hlt := c_rd_lt hK.l6 hK.r6 hx.2.1
    obtain ⟨m1, c1, c2, c3⟩ := s_148 (sp := sp) (ph := true) (d := d + 23) hC.1 hx h0 h1 (what := k) (by omega)
    have C1 := x_c1 hC hW c1 (fun a k q => by unfold m_Fp at q; unfold x_nc; omega) c2
    rcases c3 with ⟨g1, g2⟩ | ⟨Mv, u, m2, g1, g2, g3, g4, g5, g6⟩
    · refine x_ans (v := -1) hW ⟨m1, g2, C1⟩ (fun M hM => ?_)
      obtain ⟨m3, r1, r2, r3⟩ := t_255a (sp := sp) (ph := true) (d := d + 23) hM.1 hx h0 h1 (what := k) (by omega) g1
      exact ⟨m3, r1, x_r1 hM hW r2 (fun a k q => by unfold u_R25 m_25 at q; unfold x_nr q_wr; omega), r3⟩
    · have hway := m_best_way hlt hx.2.2 g3
      have hp12 := n_pop_le hlt
      refine x_anw (w' := n_low x.toNat :: u) (v := m_tell k L A B (m_eu (n_low x.toNat) (n_low x.toNat) u)) hW ?_ (fun M hM => ?_)
      · have F := q_F_trans (q_F_mono c1 (T := fun a k => m_Fp a k ∨ (a = 20 ∧ k = 1) ∨ a = 21 ∨ (a = 23 ∧ k = 1) ∨ a = 24) (fun a k q => Or.inl q)) (q_F_mono g5 (fun a k q => Or.inr q))
        have e1 : y_mc m1 = y_mc m := c1.2.2.1
        have hU := x_UC c2 g5 (fun a k q => by omega) (c_Ws_F c2.2.1 g5 (by omega) (fun k => by omega)) g6 ⟨fun h hh => x_rd_bit hx _ (hway.2.1 h hh), hway.1, Or.inr (by rw [hway.2.2]; exact hx.2.2), by rw [hway.2.2]; exact hp12⟩
        exact ⟨m2, g4, x_c1 hC hW F (fun a k q => by unfold m_Fp at q; unfold x_nc; omega) hU⟩
      · obtain ⟨u', m3, r1, r2, r3, r4, r5⟩ := t_255 (sp := sp) (ph := true) (d := d + 23) hM.1 hx h0 h1 (what := k) (by omega) g1 g2
        have e := m_gr_uni _ _ _ _ _ _ _ (m_best_x g3) r5
        subst e
        exact ⟨m3, r1, x_r2 hM hW r2 (fun a k q => by unfold u_R25 m_25 at q; unfold x_nr q_wr; omega) r4, r3⟩
  · exact x_thr (e := 0) (k := 1) (v := 0) hC hW List.mem_cons_self (by decide) (x_148b (d := d + 26) hK h0 h1 h2 h3 hx) (fun M hM => t_255b (d := d + 23) hM.1 h0 h1 h2 h3 hx)
theorem x_149 (hC : x_Cl m L R A B t lw X w f N q P K G) (hW : x_Wf L R t X P K G) : x_ok sp (d + 30) (d + 31) z_i 149 256 [] [(2, 1)] m ((L, R, A, B, t, lw, X), w, f, N, q, P, K, G) := by
  have hK := hC.1.1
  by_cases hn : w = []
  · subst hn
    exact x_thr (e := 2) (k := 1) (v := 0) hC hW List.mem_cons_self (by decide) (s_149n (d := d + 28) hC.1) (fun M hM => t_256n (d := d + 23) hM.1)
  · have hlt := u_w12 hK
    have h12 := c_K_12 hK
    obtain ⟨Mv, m1, c1, c2, c3, c4⟩ := s_149 (sp := sp) (ph := true) (d := d + 23) hC.1 hn
    have hp : n_pop (q_bits w) = w.length := n_pop_bits hK.nd h12
    obtain ⟨s, u, rfl, g1, g2, g3, g4, g5⟩ := c_K_E hK hn
    rw [m_len_w hC.1.2.2.1 g4] at c2
    refine x_ans (v := if Mv = m_F then -1 else m_ag (m_S 0 L A B (m_eu s s u)) Mv) hW ⟨m1, c2, x_c1 hC hW c3 (fun a k q => by unfold m_Fq m_Fp at q; unfold x_nc; omega) c4⟩ (fun M hM => ?_)
    obtain ⟨m3, r1, r2, r3⟩ := t_256 (sp := sp) (ph := true) (d := d + 23) hM.1 rfl hlt g2 (fun j hj => by rw [q_bits_bit] at hj; exact hK.mem _ (of_decide_eq_true hj)) (by rw [hp, List.length_cons]; omega) c1
    exact ⟨m3, r1, x_r1 hM hW r2 (fun a k q => by unfold u_R25 m_25 at q; unfold x_nr q_wr; omega), r3⟩
theorem x_150 (hC : x_Cl m L R A B t lw X w f N q P K G) (hW : x_Wf L R t X P K G) : x_ok sp (d + 30) (d + 30) z_i 150 262 [] [] m ((L, R, A, B, t, lw, X), w, f, N, q, P, K, G) := by
  obtain ⟨tr, r, m1, c1, c2, c3, c4, c5⟩ := s_150 (sp := sp) (ph := true) (d := d + 23) hC.1 hW.2.2.1
  refine x_ans (v := r) hW ⟨m1, c3, x_c1 hC hW c4 (fun a k q => by unfold m_Fq m_Fp at q; unfold x_nc; omega) c5⟩ (fun M hM => ?_)
  obtain ⟨r', m3, r0, r1, r2, r3⟩ := t_262 (sp := sp) (ph := true) (d := d + 21) hM.1 c1
  rw [← m_lv_uni c2 r0] at r1
  exact ⟨m3, r1, x_r1 hM hW r2 (fun a k q => by unfold u_Rh at q; unfold x_nr q_wr; omega), r3⟩
theorem x_151 (hC : x_Cl m L R A B t lw X w f N q P K G) (hW : x_Wf L R t X P K G) : x_ok sp (d + 30) (d + 30) z_i 151 263 [] [] m ((L, R, A, B, t, lw, X), w, f, N, q, P, K, G) := by
  obtain ⟨Mv, m1, c1, c3, c4, c5⟩ := s_151 (sp := sp) (ph := true) (d := d + 23) hC.1 hW.2.2.1
  refine x_ans (v := m_ts Mv X) hW ⟨m1, c3, x_c1 hC hW c4 (fun a k q => by unfold m_Fq m_Fp at q; unfold x_nc; omega) c5⟩ (fun M hM => ?_)
  obtain ⟨m3, r1, r2, r3⟩ := t_263 (sp := sp) (ph := true) (d := d + 22) hM.1 c1
  exact ⟨m3, r1, x_r1 hM hW r2 (fun a k q => by unfold u_R25 m_25 at q; unfold x_nr q_wr; omega), r3⟩
theorem x_152 (hC : x_Cl m L R A B t lw X w f N q P K G) (hW : x_Wf L R t X P K G) : x_ok sp (d + 30) (d + 30) z_i 152 271 [] [] m ((L, R, A, B, t, lw, X), w, f, N, q, P, K, G) := by
  obtain ⟨m1, c3, c4⟩ := s_152 (sp := sp) (ph := true) (d := d + 9) hC.1.1 hW.2.1
  refine x_ans (v := if L = R ∧ t = 0 ∧ L ≤ 4 then (if L = 1 then 0 else u_al L lw) else -1) hW ⟨m1, c3, x_c2 hC hW c4 (fun a k q => by unfold u_wW at q; unfold x_nc; omega)⟩ (fun M hM => ?_)
  obtain ⟨m3, r1, r2, r3⟩ := t_271 (sp := sp) (ph := true) (d := d + 10) (x_hR hM) hW.1
  have e : (if L = R ∧ t = 0 ∧ L ≤ 4 then (if L = 1 then 0 else u_ac L lw) else -1) = (if L = R ∧ t = 0 ∧ L ≤ 4 then (if L = 1 then 0 else u_al L lw) else -1) := by
    by_cases c : L = R ∧ t = 0 ∧ L ≤ 4
    · rw [if_pos c, if_pos c]
      by_cases c1 : L = 1
      · rw [if_pos c1, if_pos c1]
      · rw [if_neg c1, if_neg c1, u_alike (by have := hW.1; omega) c.2.2]
    · rw [if_neg c, if_neg c]
  rw [e] at r1
  exact ⟨m3, r1, x_r1 hM hW r2 (fun a k q => by unfold x_nr q_wr; omega), r3⟩
theorem x_153 (hC : x_Cl m L R A B t lw X w f N q P K G) (hW : x_Wf L R t X P K G) : x_ok sp (d + 30) (d + 31) z_i 153 272 [] [(2, 1)] m ((L, R, A, B, t, lw, X), w, f, N, q, P, K, G) := by
  have hK := hC.1.1
  by_cases hn : w = []
  · subst hn
    exact x_thr (e := 2) (k := 1) (v := 0) hC hW List.mem_cons_self (by decide) (s_153n (d := d + 28) hK) (fun M hM => t_272n (d := d + 28) (x_V hM))
  · have hlt := u_w12 hK
    refine x_ans (v := if L = R ∧ t = 0 then u_si L w else -1) hW ⟨m, s_153 (d := d + 25) hK hn, hC, x_cG_refl⟩ (fun M hM => ?_)
    obtain ⟨m3, r1, r2, r3⟩ := t_272 (sp := sp) (ph := true) (d := d + 25) hM.1 hn hlt
    rw [u_itself hK.nd (hK.len.resolve_left hn)] at r1
    exact ⟨m3, r1, x_r1 hM hW r2 (fun a k q => by unfold x_nr q_wr; omega), r3⟩
theorem x_154 (hC : x_Cl m L R A B t lw X w f N q P K G) (hW : x_Wf L R t X P K G) (h0 : -2147483648 ≤ x) (h1 : x < 2147483648) : x_ok sp (d + 30) (d + 31) z_i 154 265 [y_bi x] [(0, 1)] m ((L, R, A, B, t, lw, X), w, f, N, q, P, K, G) := by
  by_cases hx : c_sb L R t x
  · obtain ⟨tr, m1, c1, c3, c4, c5⟩ := s_154 (sp := sp) (ph := true) (d := d + 23) hC.1 h0 h1 hx
    refine x_ans (v := m_tw (m_s2 tr (c_wh L R t) x.toNat)) hW ⟨m1, c3, x_c1 hC hW c4 (fun a k q => by unfold m_Fq m_Fp at q; unfold x_nc; omega) c5⟩ (fun M hM => ?_)
    obtain ⟨m3, r1, r2, r3⟩ := t_265 (sp := sp) (ph := true) (d := d + 22) hM.1 h0 h1 hx c1
    exact ⟨m3, r1, x_r1 hM hW r2 (fun a k q => by unfold u_Rh at q; unfold x_nr q_wr; omega), r3⟩
  · exact x_thr (e := 0) (k := 1) (v := 0) hC hW List.mem_cons_self (by decide) (s_154b (d := d + 27) hC.1 h0 h1 hx) (fun M hM => t_265b (d := d + 27) hM.1 h0 h1 hx)
theorem x_155 (hC : x_Cl m L R A B t lw X w f N q P K G) (hW : x_Wf L R t X P K G) : x_ok sp (d + 30) (d + 30) z_i 155 266 [] [] m ((L, R, A, B, t, lw, X), w, f, N, q, P, K, G) := by
  obtain ⟨tr, m1, c1, c3, c4, c5⟩ := s_155 (sp := sp) (ph := true) (d := d + 23) hC.1
  refine x_ans (v := m_col tr (c_wh L R t)) hW ⟨m1, c3, x_c1 hC hW c4 (fun a k q => by unfold m_Fq m_Fp at q; unfold x_nc; omega) c5⟩ (fun M hM => ?_)
  obtain ⟨m3, r1, r2, r3⟩ := t_266 (sp := sp) (ph := true) (d := d + 21) hM.1 c1
  exact ⟨m3, r1, x_r1 hM hW r2 (fun a k q => by unfold u_Rh at q; unfold x_nr q_wr; omega), r3⟩
end Calls
