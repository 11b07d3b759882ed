/-! ===== one call: images, boots ===== -/
section Calls
variable {sp : Nat → Nat} {d : Nat} {m m1 m2 M : y_m} {L R A B t lw X N : Nat} {w : List Nat} {f : Nat → Int} {q x y : Int} {P : List (Nat × Nat)} {K : List (List Nat)} {G : List x_Gt}
theorem x_ln (hW : x_Wg L R t (w, P, K)) : u_ln w P K := ⟨hW.1.2.2.2, hW.2.1.1, hW.2.2.1, fun i hi => by
  rw [List.getD_eq_getElem?_getD, List.getElem?_eq_getElem hi]
  exact (hW.2.2.2 _ (List.getElem_mem hi)).2.1⟩
theorem x_fp12 (hk : u_Pk L R t P) (h6 : L ≤ 6) (hR : R ≤ 6) : ∀ h ∈ u_fp P, h < 12 := fun h hh => by have := (hk.2.2 h hh).1; omega
theorem x_167 (hC : x_Cl m L R A B t lw X w f N q P K G) (hW : x_Wf L R t X P K G) : x_ok sp (d + 30) (d + 30) z_i 167 295 [] [] m ((L, R, A, B, t, lw, X), w, f, N, q, P, K, G) := by
  obtain ⟨r1, r2, r3, r4, r5, r6, r7, r8⟩ := hC
  have hK := r1.1
  have hb := hK.b
  have hG := hW.2.2.2.2.2.1
  have hwg : x_Wg L R t (w, P, K) := ⟨x_Wy_C r1, hW.2.2.2.1, hW.2.2.2.2.1⟩
  by_cases c : G.length = 3
  · rw [c] at r7
    refine x_ans (v := -1) hW ⟨m, s_167f (d := d + 29) r7, ⟨r1, r2, r3, r4, r5, r6, by rw [c]; exact r7, r8⟩, x_cG_refl⟩ (fun M hM => ?_)
    obtain ⟨a, b, e⟩ := x_r0 (z := 0) hM hW
    exact ⟨_, t_295f (d := d + 29) (by rw [hM.2.2.2.2.2.1, c]; rfl), ⟨a, b⟩, e⟩
  · have hn : G.length < 3 := by omega
    have hl1 : (G ++ [(w, P, K)]).length = G.length + 1 := by simp
    have hW' : x_Wf L R t X P K (G ++ [(w, P, K)]) := ⟨hW.1, hW.2.1, hW.2.2.1, hW.2.2.2.1, hW.2.2.2.2.1, by omega, fun g hg => by
      rcases List.mem_append.mp hg with z | z
      · exact hW.2.2.2.2.2.2 g z
      · rw [List.mem_singleton] at z; rw [z]; exact hwg⟩
    refine ⟨((L, R, A, B, t, lw, X), w, f, N, q, P, K, G ++ [(w, P, K)]), hW', Or.inl ⟨(G.length : Int) + 1, ?_, fun M hM => ?_⟩⟩
    · obtain ⟨m1, c1, c2, c3, c4⟩ := s_167 (sp := sp) (ph := true) (d := d + 25) r7 hn ⟨hK.W, r5, r6⟩ (x_fp12 hW.2.2.2.1 hK.l6 hK.r6) hW.2.2.2.2.1.1
      have hS : ∀ y k, (u_sn6 (31 + 6 * G.length) y k ∨ (y = 0 ∧ k = 11)) → (31 + 6 * G.length ≤ y ∧ y ≤ 36 + 6 * G.length) ∨ (y = 0 ∧ k = 11) := fun y k z => by unfold u_sn6 at z; omega
      refine ⟨m1, c1, ⟨u_C_F r1 c2 (fun a k z => by have := hS a k z; omega), x_mb_F r2 c2, x_Ct_F r3 c2 (fun z => by have := hS _ _ z; omega) (fun k z => by have := hS _ _ z; omega), by rw [q_F_I c2 0 12 (fun z => by have := hS _ _ z; omega)]; exact r4, u_PC_F r5 c2 (fun k z => by have := hS _ _ z; omega) (fun k z => by have := hS _ _ z; omega), u_KC_F r6 c2 (fun z => by have := hS _ _ z; omega) (fun k z => by have := hS _ _ z; omega), by rw [c3]; show _ = (((G ++ [(w, P, K)]).length : Nat) : Int); rw [hl1], fun i hi => ?_⟩, x_cG_q c2 (fun a k z => by have := hS a k z; omega)⟩
      have hi' : i < (G ++ [(w, P, K)]).length := hi
      rw [hl1] at hi'
      show u_SC m1 (31 + 6 * i) L ((G ++ [(w, P, K)]).getD i x_g0).1 ((G ++ [(w, P, K)]).getD i x_g0).2.1 ((G ++ [(w, P, K)]).getD i x_g0).2.2
      rw [n_getD_app]
      by_cases z : i < G.length
      · rw [if_pos z]
        exact x_SC_F (r8 i z) c2 (fun y k u => by have := hS _ _ u; omega)
      · have e : i = G.length := by omega
        rw [if_neg z, if_pos e, e]
        exact c4
    · have hM' : x_Rf M L R A B t lw X w f N q P K G := hM
      obtain ⟨m2, t1, t2, t3, t4, t5⟩ := t_295 (sp := sp) (ph := true) (d := d + 27) hM'.2.2.2.2.2.1 hn (x_ln hwg) ⟨x_V hM', hM'.2.2.2.1, hM'.2.2.2.2.1⟩
      refine ⟨m2, t1, ⟨u_R_F hM'.1 t2 (fun a k z => by unfold q_wr; omega), x_Rt_F hM'.2.1 t2 (by omega) (fun k => by omega), by rw [q_F_I t2 49 3 (by omega)]; exact hM'.2.2.1, u_PR_F hM'.2.2.2.1 hW.2.2.2.1.1 t2 (by omega) (fun a k z => by omega), u_KR_F hM'.2.2.2.2.1 hW.2.2.2.2.1.1 t2 (by omega) (fun a k z => by omega), by rw [t4]; show _ = (((G ++ [(w, P, K)]).length : Nat) : Int); rw [hl1], fun i hi => ?_⟩, x_rG_q t2 (fun a k z => by omega), t3⟩
      have hi' : i < (G ++ [(w, P, K)]).length := hi
      rw [hl1] at hi'
      show u_IR m2 (68 + i) ((G ++ [(w, P, K)]).getD i x_g0).1 ((G ++ [(w, P, K)]).getD i x_g0).2.1 ((G ++ [(w, P, K)]).getD i x_g0).2.2
      rw [n_getD_app]
      by_cases z : i < G.length
      · rw [if_pos z]
        exact u_IR_F (hM'.2.2.2.2.2.2 i z) t2 (fun k u => by omega)
      · have e : i = G.length := by omega
        rw [if_neg z, if_pos e, e]
        exact t5
theorem x_168 (hC : x_Cl m L R A B t lw X w f N q P K G) (hW : x_Wf L R t X P K G) : x_ok sp (d + 30) (d + 30) z_i 168 296 [] [] m ((L, R, A, B, t, lw, X), w, f, N, q, P, K, G) := by
  obtain ⟨r1, r2, r3, r4, r5, r6, r7, r8⟩ := hC
  have hK := r1.1
  have hb := hK.b
  have hG := hW.2.2.2.2.2.1
  by_cases c : G.length = 0
  · rw [c] at r7
    refine x_ans (v := -1) hW ⟨m, s_168f (d := d + 29) r7, ⟨r1, r2, r3, r4, r5, r6, by rw [c]; exact r7, r8⟩, x_cG_refl⟩ (fun M hM => ?_)
    obtain ⟨a, b, e⟩ := x_r0 (z := 0) hM hW
    exact ⟨_, t_296f (d := d + 29) (by rw [hM.2.2.2.2.2.1, c]; rfl), ⟨a, b⟩, e⟩
  · obtain ⟨n, hn⟩ : ∃ n, G.length = n + 1 := ⟨G.length - 1, by omega⟩
    have hn3 : n < 3 := by omega
    have hmem : G.getD n x_g0 ∈ G := by
      rw [List.getD_eq_getElem?_getD, List.getElem?_eq_getElem (show n < G.length by omega)]; exact List.getElem_mem _
    have hwg := hW.2.2.2.2.2.2 _ hmem
    have ht : (G.take n).length = n := by rw [List.length_take]; omega
    have hg : ∀ i, i < n → (G.take n).getD i x_g0 = G.getD i x_g0 := fun i hi => by
      rw [List.getD_eq_getElem?_getD, List.getD_eq_getElem?_getD, List.getElem?_take, if_pos hi]
    have s8 := r8 n (by omega)
    have i8 := fun (M : y_m) (hM : x_Rf M L R A B t lw X w f N q P K G) => hM.2.2.2.2.2.2 n (by omega)
    generalize G.getD n x_g0 = g at *
    obtain ⟨w1, P1, K1⟩ := g
    have hW' : x_Wf L R t X P1 K1 (G.take n) := ⟨hW.1, hW.2.1, hW.2.2.1, hwg.2.1, hwg.2.2, by omega, fun g hg => hW.2.2.2.2.2.2 g (List.mem_of_mem_take hg)⟩
    rw [hn] at r7
    refine ⟨((L, R, A, B, t, lw, X), w1, f, N, q, P1, K1, G.take n), hW', Or.inl ⟨(n : Int), ?_, fun M hM => ?_⟩⟩
    · obtain ⟨m1, c1, c2, c3, c4⟩ := s_168 (sp := sp) (ph := true) (d := d + 25) r7 hn3 s8 (x_fp12 hwg.2.1 hK.l6 hK.r6) hwg.2.2.1
      have hS : ∀ y k, (u_sn6 22 y k ∨ (y = 0 ∧ k = 11)) → (22 ≤ y ∧ y ≤ 27) ∨ (y = 0 ∧ k = 11) := fun y k z => by unfold u_sn6 at z; omega
      have hU := x_UC r1 c2 (fun a k z => by have := hS a k z; omega) (c_Ws_F r1.2.1 c2 (fun z => by have := hS _ _ z; omega) (fun k z => by have := hS _ _ z; omega)) c4.1 hwg.1
      refine ⟨m1, c1, ⟨hU, x_mb_F r2 c2, x_Ct_F r3 c2 (fun z => by have := hS _ _ z; omega) (fun k z => by have := hS _ _ z; omega), by rw [q_F_I c2 0 12 (fun z => by have := hS _ _ z; omega)]; exact r4, c4.2.1, c4.2.2, by rw [c3]; show _ = (((G.take n).length : Nat) : Int); rw [ht], fun i hi => ?_⟩, x_cG_q c2 (fun a k z => by have := hS a k z; omega)⟩
      have hi' : i < (G.take n).length := hi
      rw [ht] at hi'
      show u_SC m1 (31 + 6 * i) L ((G.take n).getD i x_g0).1 ((G.take n).getD i x_g0).2.1 ((G.take n).getD i x_g0).2.2
      rw [hg i hi']
      exact x_SC_F (r8 i (by omega)) c2 (fun y k u => by have := hS _ _ u; omega)
    · have hM' : x_Rf M L R A B t lw X w f N q P K G := hM
      obtain ⟨m2, t1, t2, t3, t4, t5⟩ := t_296 (sp := sp) (ph := true) (d := d + 27) (n := n) (by rw [hM'.2.2.2.2.2.1, hn]) hn3 (x_ln hwg) (i8 M hM')
      refine ⟨m2, t1, ⟨u_R_way hM'.1 t2 (fun a k z => by unfold u_rs at z; unfold q_wr; omega) t5.1, x_Rt_F hM'.2.1 t2 (by unfold u_rs; omega) (fun k => by unfold u_rs; omega), by rw [q_F_I t2 49 3 (by unfold u_rs; omega)]; exact hM'.2.2.1, t5.2.1, t5.2.2, by rw [t4]; show _ = (((G.take n).length : Nat) : Int); rw [ht], fun i hi => ?_⟩, x_rG_q t2 (fun a k z => by unfold u_rs at z; omega), t3⟩
      have hi' : i < (G.take n).length := hi
      rw [ht] at hi'
      show u_IR m2 (68 + i) ((G.take n).getD i x_g0).1 ((G.take n).getD i x_g0).2.1 ((G.take n).getD i x_g0).2.2
      rw [hg i hi']
      exact u_IR_F (hM'.2.2.2.2.2.2 i (by omega)) t2 (fun k => by unfold u_rs; omega)
theorem x_137 (okv : v_Ok) (hC : x_Cl m L R A B t lw X w f N q P K G) (hW : x_Wf L R t X P K G) (h0 : -2147483648 ≤ x) (h1 : x < 2147483648) : x_ok sp (d + 30) (d + 31) z_i 137 193 [y_bi x] [(0, 1)] m ((L, R, A, B, t, lw, X), w, f, N, q, P, K, G) := by
  obtain ⟨r1, r2, r3, r4, r5, r6, r7, r8⟩ := hC
  have hG := hW.2.2.2.2.2.1
  have hmx : y_mx m = 29 ∨ y_mx m = 30 := by unfold u_mb at r2; omega
  have hmc : y_mc m = 29 ∨ y_mc m = 30 := by unfold u_mb at r2; omega
  have hne : y_mx m ≠ y_mc m := by unfold u_mb at r2; omega
  by_cases hx : 0 ≤ x ∧ x ≤ N
  · obtain ⟨n, rfl⟩ := Int.eq_ofNat_of_zero_le hx.1
    cases hg : u_bt f n 41 0 0 u_g0 with
    | inl z =>
      refine x_anp (v := z.1 - 10) (w' := w) (f' := f) (N' := 0) (q' := z.2) (P' := P) (K' := K) hW ?_ (fun M hM => ?_)
      · obtain ⟨m1, c1, c2, c3, c4⟩ := s_137e (sp := sp) (d := d + 22) r2 r3 (n := n) (by omega) hg
        have hU := x_UC r1 c2 (fun a k q => by unfold u_cb at q; omega) (c_Ws_F r1.2.1 c2 (by unfold u_cb; omega) (fun k => by unfold u_cb; omega)) (q_W_F r1.1.W c2 (by unfold u_cb; omega) (fun k => by unfold u_cb; omega)) (x_Wy_C r1)
        exact ⟨m1, c1, x_Cl_e ⟨r1, r2, r3, r4, r5, r6, r7, r8⟩ c2 (fun a k q => by unfold u_cb at q; omega) hU ⟨c3, Nat.zero_le _, fun i hi => absurd hi (Nat.not_lt_zero i)⟩ c4 (u_PC_F r5 c2 (fun k => by unfold u_cb; omega) (fun k => by unfold u_cb; omega)) (u_KC_F r6 c2 (by unfold u_cb; omega) (fun k => by unfold u_cb; omega)), x_cG_q c2 (fun a k q => by unfold u_cb at q; omega)⟩
      · obtain ⟨m2, t1, t2, t3, t4, t5⟩ := t_193e (sp := sp) (d := d + 25) (m := M) hM.2.1 (n := n) (by omega) hg
        have hq : q_F u_b4 M (M.1, M.2.1, m2.2.2) := ⟨rfl, rfl, t2.2.2.1, t2.2.2.2.1, t2.2.2.2.2.1, t2.2.2.2.2.2⟩
        have hR' := x_Rf_e (m1 := (M.1, M.2.1, m2.2.2)) (w' := w) (f' := f) (N' := 0) (q' := z.2) (P' := P) (K' := K) hM hG hq (fun a k q => by unfold u_b4 at q; omega) (u_R_F hM.1 hq (fun a k q => by unfold u_b4 at q; unfold q_wr; omega)) ⟨t4, Nat.zero_le _, fun i hi => absurd hi (Nat.not_lt_zero i)⟩ t5 (u_PR_F hM.2.2.2.1 hW.2.2.2.1.1 hq (by unfold u_b4; omega) (fun a k q => by unfold u_b4 at q; omega)) (u_KR_F hM.2.2.2.2.1 hW.2.2.2.2.1.1 hq (by unfold u_b4; omega) (fun a k q => by unfold u_b4 at q; omega))
        exact ⟨m2, t1, ⟨x_Rf_n (n := m2.1) (s := m2.2.1) hR', ⟨t2.2.2.1, t2.2.2.2.1, fun a h k => ⟨t2.2.2.2.2.1 a k (by unfold u_b4; omega), t2.2.2.2.2.2 a k (by unfold u_b4; omega)⟩⟩, t2.2.2.2.2.2 105 0 (by unfold u_b4; omega), by rw [t2.1]; exact Nat.le_refl _, by rw [t2.2.1]; exact Nat.le_refl _⟩, t3⟩
    | inr g =>
      have hgr : u_gr g := (t_193s (sp := sp) (d := 0) (m := (0, 0, 0, 0, fun a k => if a = 49 then (N : Int) else f k, fun _ _ => 0)) okv ⟨rfl, r3.2.1, fun i hi => ⟨rfl, (r3.2.2 i hi).2⟩⟩ (n := n) (by omega) hg).1
      have hW' : x_Wf (g 0) (g 1) (g 4) (g 6) [] [] [] := ⟨hgr.1, hgr.2.2.1, hgr.2.2.2.2.2.2.2.2.2.2.2, u_Pk_0, ⟨Nat.zero_le _, fun w hw => by cases hw⟩, Nat.zero_le _, fun g hg => by cases hg⟩
      refine ⟨((g 0, g 1, g 2, g 3, g 4, g 5, g 6), [], f, 0, -1, [], [], []), hW', Or.inl ⟨((n_pop (c_wh (g 0) (g 1) (g 4)) : Nat) : Int), ?_, fun M hM => ?_⟩⟩
      · obtain ⟨m1, c1, c2, c3, c4, c5, c6, c7, c8, c9⟩ := s_137s (sp := sp) (d := d + 22) okv r2 r1.2.1 r3 (n := n) (by omega) hg
        obtain ⟨f1, f2, f3, f4, f5, f6⟩ := c2
        refine ⟨m1, c1, ⟨c9, ?_, ⟨c3, Nat.zero_le _, fun i hi => absurd hi (Nat.not_lt_zero i)⟩, c4, u_PC_0 c7 c8, u_KC_0 c6, c5, fun i hi => absurd hi (Nat.not_lt_zero i)⟩, ⟨fun a h1 h2 k => ⟨f5 a k (by unfold u_ck u_cb; omega), f6 a k (by unfold u_ck u_cb; omega)⟩, by omega, by omega⟩⟩
        unfold u_mb at r2 ⊢
        rw [f3, f4]
        omega
      · have hM' : x_Rf M L R A B t lw X w f N q P K G := hM
        obtain ⟨m2, t1, t2, t3, t4, t5, t6, t7, t8, t9⟩ := (t_193s (sp := sp) (d := d + 25) (m := M) okv hM'.2.1 (n := n) (by omega) hg).2
        exact ⟨m2, t1, ⟨t9, ⟨t4, Nat.zero_le _, fun i hi => absurd hi (Nat.not_lt_zero i)⟩, t5, u_PR_0 t6, u_KR_0 t7, t8, fun i hi => absurd hi (Nat.not_lt_zero i)⟩, ⟨⟨t2.2.2.1, t2.2.2.2.1, fun a h k => ⟨t2.2.2.2.2.1 a k (by unfold u_b3 q_wr; omega), t2.2.2.2.2.2 a k (by unfold u_b3 q_wr; omega)⟩⟩, t2.2.2.2.2.2 105 0 (by unfold u_b3 q_wr; omega), by rw [t2.1]; exact Nat.le_refl _, by rw [t2.2.1]; exact Nat.le_refl _⟩, t3⟩
  · exact x_thr (e := 0) (k := 1) (v := 0) ⟨r1, r2, r3, r4, r5, r6, r7, r8⟩ hW List.mem_cons_self (by decide) (s_137n (d := d + 28) r3 h0 h1 hx) (fun M hM => t_193n (d := d + 25) hM.2.1 h0 h1 hx)
end Calls
