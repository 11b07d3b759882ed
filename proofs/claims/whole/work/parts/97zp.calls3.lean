/-! ===== one call: those that change the state ===== -/
section Calls
variable {sp : Nat → Nat} {d : Nat} {m m1 m2 M : y_m} {L R A B t lw X N N' : Nat} {w w' : List Nat} {f f' : Nat → Int} {q q' x y : Int} {P P' : List (Nat × Nat)} {K K' : List (List Nat)} {G : List x_Gt}
theorem x_Cl_e {F : Nat → Nat → Prop} (h : x_Cl m L R A B t lw X w f N q P K G) (hq : q_F F m m1) (hF : ∀ a k, F a k → (a ≠ 0 ∨ k ≠ 11) ∧ a < 31) (hU : u_C m1 L R A B t lw X w') (hct : u_Ct m1 f' N') (hq' : y_mI m1 0 12 = q') (hP' : u_PC m1 25 P') (hK' : u_KC m1 22 L K') : x_Cl m1 L R A B t lw X w' f' N' q' P' K' G := by
  obtain ⟨r1, r2, r3, r4, r5, r6, r7, r8⟩ := h
  refine ⟨hU, x_mb_F r2 hq, hct, hq', hP', hK', ?_, fun i hi => x_SC_F (r8 i hi) hq (fun y k q => ?_)⟩
  · rw [q_F_I hq 0 11 (fun q => by have := hF _ _ q; omega)]; exact r7
  · have := hF _ _ q
    omega
theorem x_Rf_e {F : Nat → Nat → Prop} (h : x_Rf m L R A B t lw X w f N q P K G) (hG : G.length ≤ 3) (hq : q_F F m m1) (hF : ∀ a k, F a k → (a ≠ 49 ∨ k ≠ 16) ∧ (a < 68 ∨ 70 < a)) (hU : u_R m1 L R A B t lw X w') (hct : u_Rt m1 f' N') (hq' : y_mI m1 49 3 = q') (hP' : u_PR m1 P') (hK' : u_KR m1 K') : x_Rf m1 L R A B t lw X w' f' N' q' P' K' G := by
  obtain ⟨r1, r2, r3, r4, r5, r6, r7⟩ := h
  refine ⟨hU, hct, hq', hP', hK', ?_, fun i hi => u_IR_F (r7 i hi) hq (fun k q => ?_)⟩
  · rw [q_F_I hq 49 16 (fun q => by have := hF _ _ q; omega)]; exact r6
  · have := hF _ _ q
    omega
theorem x_Wf_P (h : x_Wf L R t X P K G) (hP : u_Pk L R t P') : x_Wf L R t X P' K G := ⟨h.1, h.2.1, h.2.2.1, hP, h.2.2.2.2⟩
theorem x_Wf_K (h : x_Wf L R t X P K G) (hK : u_Kk L R K') : x_Wf L R t X P K' G := ⟨h.1, h.2.1, h.2.2.1, h.2.2.2.1, hK, h.2.2.2.2.2⟩
theorem x_Kk_0 : u_Kk L R [] := ⟨Nat.zero_le _, fun w hw => by cases hw⟩
theorem x_anp {D E jc jr : Nat} {mk : Int → z_Av} {As : List y_Bv} {lk : List (Nat × Int)} {v : Int} (hW : x_Wf L R t X P' K' G) (hc : ∃ m1, y_V sp true D jc (y_bo 10 0 0 :: As) m = some (.inl (some (mk v)), m1) ∧ x_Cl m1 L R A B t lw X w' f' N' q' P' K' G ∧ x_cG m m1) (hr : ∀ M, x_Rf M L R A B t lw X w f N q P K G → ∃ m2, y_V sp true E jr (y_bo 11 0 49 :: As) M = some (.inl (some (mk v)), m2) ∧ (x_Rf m2 L R A B t lw X w' f' N' q' P' K' G ∧ x_rG M m2) ∧ y_mI m2 49 0 = 0) : x_ok sp D E mk jc jr As lk m ((L, R, A, B, t, lw, X), w, f, N, q, P, K, G) := by
  refine ⟨((L, R, A, B, t, lw, X), w', f', N', q', P', K', G), hW, Or.inl ⟨v, hc, fun M hM => ?_⟩⟩
  obtain ⟨m2, a, b, c⟩ := hr M hM
  exact ⟨m2, a, b.1, b.2, c⟩
theorem x_136 {x1 x2 x3 x4 x5 : Int} (hC : x_Cl m L R A B t lw X w f N q P K G) (hW : x_Wf L R t X P K G) : x_ok sp (d + 30) (d + 30) z_i 136 181 [y_bi x1, y_bi x2, y_bi x3, y_bi x4, y_bi x5] [] m ((L, R, A, B, t, lw, X), w, f, N, q, P, K, G) := by
  obtain ⟨r1, r2, r3, r4, r5, r6, r7, r8⟩ := hC
  by_cases c : N + 20 ≤ 400
  · refine x_anp (v := ((N + 20 : Nat) : Int)) (w' := w) (f' := u_fe f N x1 x2 x3 x4 x5) (N' := N + 20) (q' := q) (P' := P) (K' := K) hW ?_ (fun M hM => ?_)
    · obtain ⟨m1, c1, c2, c3⟩ := s_136 (sp := sp) (ph := true) (d := d + 27) (x1 := x1) (x2 := x2) (x3 := x3) (x4 := x4) (x5 := x5) r3 c
      exact ⟨m1, c1, x_Cl_e ⟨r1, r2, r3, r4, r5, r6, r7, r8⟩ c2 (fun a k q => by unfold u_fd at q; omega) (u_C_F r1 c2 (fun a k q => by unfold u_fd at q; omega)) c3 (by rw [q_F_I c2 0 12 (by unfold u_fd; omega)]; exact r4) (u_PC_F r5 c2 (fun k => by unfold u_fd; omega) (fun k => by unfold u_fd; omega)) (u_KC_F r6 c2 (by unfold u_fd; omega) (fun k => by unfold u_fd; omega)), x_cG_q c2 (fun a k q => by unfold u_fd at q; omega)⟩
    · obtain ⟨m2, t1, t2, t3, t4⟩ := t_181 (sp := sp) (ph := true) (d := d + 29) (x1 := x1) (x2 := x2) (x3 := x3) (x4 := x4) (x5 := x5) hM.2.1 c
      exact ⟨m2, t1, ⟨x_Rf_e hM hW.2.2.2.2.2.1 t2 (fun a k q => by unfold u_fr at q; omega) (u_R_F hM.1 t2 (fun a k q => by unfold u_fr at q; unfold q_wr; omega)) t4 (by rw [q_F_I t2 49 3 (by unfold u_fr; omega)]; exact hM.2.2.1) (u_PR_F hM.2.2.2.1 hW.2.2.2.1.1 t2 (by unfold u_fr; omega) (fun a k q => by unfold u_fr at q; omega)) (u_KR_F hM.2.2.2.2.1 hW.2.2.2.2.1.1 t2 (by unfold u_fr; omega) (fun a k q => by unfold u_fr at q; omega)), x_rG_q t2 (fun a k q => by unfold u_fr at q; omega)⟩, t3⟩
  · refine x_ans (v := -1) hW ⟨m, s_136n (d := d + 28) r3 (by omega), ⟨r1, r2, r3, r4, r5, r6, r7, r8⟩, x_cG_refl⟩ (fun M hM => ?_)
    obtain ⟨a, b, e⟩ := x_r0 (z := 0) hM hW
    exact ⟨_, t_181n (d := d + 29) hM.2.1 (by omega), ⟨a, b⟩, e⟩
theorem x_138 (hC : x_Cl m L R A B t lw X w f N q P K G) (hW : x_Wf L R t X P K G) (h0 : -2147483648 ≤ x) (h1 : x < 2147483648) : x_ok sp (d + 30) (d + 31) z_i 138 195 [y_bi x] [(0, 1)] m ((L, R, A, B, t, lw, X), w, f, N, q, P, K, G) := by
  obtain ⟨r1, r2, r3, r4, r5, r6, r7, r8⟩ := hC
  have hH : 1 ≤ L + R := by have := hW.1; omega
  by_cases hx : 0 ≤ x ∧ x ≤ N ∧ x ≤ 100
  · obtain ⟨n, rfl⟩ := Int.eq_ofNat_of_zero_le hx.1
    have wc : ∀ {m1 : y_m}, q_F u_wk2 m m1 → y_mI m1 1 1 = 0 → ∀ {w' : List Nat} {q' : Int}, u_C m1 L R A B t lw X w' → y_mI m1 0 12 = q' → x_Cl m1 L R A B t lw X w' f 0 q' P K G ∧ x_cG m m1 := fun {m1} c2 e11 {w' q'} hU e12 => ⟨x_Cl_e ⟨r1, r2, r3, r4, r5, r6, r7, r8⟩ c2 (fun a k q => by unfold u_wk2 u_wc at q; omega) hU ⟨e11, Nat.zero_le _, fun i hi => absurd hi (Nat.not_lt_zero i)⟩ e12 (u_PC_F r5 c2 (fun k => by unfold u_wk2 u_wc; omega) (fun k => by unfold u_wk2 u_wc; omega)) (u_KC_F r6 c2 (by unfold u_wk2 u_wc; omega) (fun k => by unfold u_wk2 u_wc; omega)), x_cG_q c2 (fun a k q => by unfold u_wk2 u_wc at q; omega)⟩
    have rc : ∀ {M m2 : y_m}, x_Rf M L R A B t lw X w f N q P K G → q_F u_wv M m2 → y_mI m2 49 1 = 0 → ∀ {w' : List Nat} {q' : Int}, u_R m2 L R A B t lw X w' → y_mI m2 49 3 = q' → x_Rf m2 L R A B t lw X w' f 0 q' P K G ∧ x_rG M m2 := fun {M m2} hM c2 e1 {w' q'} hU e3 => ⟨x_Rf_e hM hW.2.2.2.2.2.1 c2 (fun a k q => by unfold u_wv u_wr at q; omega) hU ⟨e1, Nat.zero_le _, fun i hi => absurd hi (Nat.not_lt_zero i)⟩ e3 (u_PR_F hM.2.2.2.1 hW.2.2.2.1.1 c2 (by unfold u_wv u_wr; omega) (fun a k q => by unfold u_wv u_wr at q; omega)) (u_KR_F hM.2.2.2.2.1 hW.2.2.2.2.1.1 c2 (by unfold u_wv u_wr; omega) (fun a k q => by unfold u_wv u_wr at q; omega)), x_rG_q c2 (fun a k q => by unfold u_wv u_wr at q; omega)⟩
    cases hw : u_wy f n (L + R) 13 0 t [] with
    | inl z =>
      refine x_anp (v := z.1 - 10) (w' := w) (f' := f) (N' := 0) (q' := z.2) (P' := P) (K' := K) hW ?_ (fun M hM => ?_)
      · obtain ⟨m1, c1, c2, c3, c4⟩ := s_138e (sp := sp) (d := d + 24) r1 r3 (n := n) (by omega) (by omega) hH hw
        have c2' := q_F_mono c2 (T := u_wk2) (fun a k q => Or.inl q)
        exact ⟨m1, c1, wc c2' c3 (u_C_F r1 c2 (fun a k q => by unfold u_wc at q; omega)) c4⟩
      · obtain ⟨m2, t1, t2, t3, t4, t5⟩ := t_195e (sp := sp) (ph := true) (d := d + 27) hM.1 hM.2.1 (n := n) (by omega) (by omega) hH hw
        have t2' := q_F_mono t2 (T := u_wv) (fun a k q => Or.inl q)
        exact ⟨m2, t1, rc hM t2' t4 (u_R_F hM.1 t2 (fun a k q => by unfold u_wr at q; unfold q_wr; omega)) t5, t3⟩
    | inr w' =>
      refine x_anp (v := (w'.length : Int)) (w' := w') (f' := f) (N' := 0) (q' := -1) (P' := P) (K' := K) hW ?_ (fun M hM => ?_)
      · obtain ⟨m1, c1, c2, c3, c4, c5⟩ := s_138s (sp := sp) (d := d + 24) r1 r3 (n := n) (by omega) (by omega) hH hw
        exact ⟨m1, c1, wc c2 c3 c5 c4⟩
      · obtain ⟨m2, t1, t2, t3, t4, t5, t6⟩ := t_195s (sp := sp) (ph := true) (d := d + 27) hM.1 hM.2.1 (n := n) (by omega) (by omega) hH hw
        exact ⟨m2, t1, rc hM t2 t4 t6 t5, t3⟩
  · exact x_thr (e := 0) (k := 1) (v := 0) ⟨r1, r2, r3, r4, r5, r6, r7, r8⟩ hW List.mem_cons_self (by decide) (s_138n (d := d + 28) r3 h0 h1 hx) (fun M hM => t_195n (d := d + 29) hM.2.1 h0 h1 hx)
theorem x_156 (hC : x_Cl m L R A B t lw X w f N q P K G) (hW : x_Wf L R t X P K G) (h0 : -2147483648 ≤ x) (h1 : x < 2147483648) (h2 : -2147483648 ≤ y) (h3 : y < 2147483648) : x_ok sp (d + 30) (d + 31) z_i 156 274 [y_bi x, y_bi y] [(1, 1), (0, 2)] m ((L, R, A, B, t, lw, X), w, f, N, q, P, K, G) := by
  have hl := hC.1.1.l6
  have hr := hC.1.1.r6
  by_cases hx : (0 ≤ x ∧ x < L + R) ∧ (0 ≤ y ∧ y < L + R)
  · obtain ⟨k, rfl⟩ := Int.eq_ofNat_of_zero_le hx.1.1
    obtain ⟨j, rfl⟩ := Int.eq_ofNat_of_zero_le hx.2.1
    by_cases c : k = j
    · subst c
      refine x_thr (e := 0) (k := 2) (v := 0) hC hW (List.mem_cons_of_mem _ List.mem_cons_self) (by decide) (s_156s (d := d + 26) hC.1.1 (by omega)) (fun M hM => ?_)
      have l := l_274 (sp := sp) (ph := true) (d := d + 28) (m := M) (x := k) (y := k) (x_eL hM) (x_eR hM) hl hr (by omega) (by omega)
      rw [if_pos rfl] at l
      exact l
    · obtain ⟨r1, r2, r3, r4, r5, r6, r7, r8⟩ := hC
      have cl := s_156 (sp := sp) (ph := true) (d := d + 26) r1.1 r5 hW.2.2.2.1 (x := k) (y := j) (by omega) (by omega) c
      by_cases so : u_so t P k j
      · refine x_ans (v := -1) hW ⟨m, cl.1 so, ⟨r1, r2, r3, r4, r5, r6, r7, r8⟩, x_cG_refl⟩ (fun M hM => ?_)
        obtain ⟨a, b, e⟩ := x_r0 (z := 0) hM hW
        exact ⟨_, (t_274 (sp := sp) (ph := true) (d := d + 28) hM.1 hM.2.2.2.1 hW.2.2.2.1 (x := k) (y := j) (by omega) (by omega) c).1 so, ⟨a, b⟩, e⟩
      · have so' := so
        unfold u_so at so'
        have hPk : u_Pk L R t (P ++ [(k, j)]) := u_Pk_F hW.2.2.2.1 (by have := hW.2.2.2.1.1; omega) (by omega) (by omega) c (Bool.eq_false_iff.mpr (fun z => so' (Or.inl z))) (Bool.eq_false_iff.mpr (fun z => so' (Or.inr (Or.inl z)))) (fun z => so' (Or.inr (Or.inr (Or.inl z)))) (fun z => so' (Or.inr (Or.inr (Or.inr (Or.inl z)))))
        refine x_anp (v := (P.length : Int) + 1) (w' := w) (f' := f) (N' := N) (q' := q) (P' := P ++ [(k, j)]) (K' := K) (x_Wf_P hW hPk) ?_ (fun M hM => ?_)
        · obtain ⟨m1, c1, c2, c3⟩ := cl.2 so
          exact ⟨m1, c1, x_Cl_e ⟨r1, r2, r3, r4, r5, r6, r7, r8⟩ c2 (fun a k q => by unfold u_sf at q; omega) (u_C_F r1 c2 (fun a k q => by unfold u_sf at q; omega)) (x_Ct_F r3 c2 (by unfold u_sf; omega) (fun k => by unfold u_sf; omega)) (by rw [q_F_I c2 0 12 (by unfold u_sf; omega)]; exact r4) c3 (u_KC_F r6 c2 (by unfold u_sf; omega) (fun k => by unfold u_sf; omega)), x_cG_q c2 (fun a k q => by unfold u_sf at q; omega)⟩
        · obtain ⟨m2, t1, t2, t3, t4⟩ := (t_274 (sp := sp) (ph := true) (d := d + 28) hM.1 hM.2.2.2.1 hW.2.2.2.1 (x := k) (y := j) (by omega) (by omega) c).2 so
          exact ⟨m2, t1, ⟨x_Rf_e hM hW.2.2.2.2.2.1 t2 (fun a k q => by unfold u_sg at q; omega) (u_R_F hM.1 t2 (fun a k q => by unfold u_sg at q; unfold q_wr; omega)) (x_Rt_F hM.2.1 t2 (by unfold u_sg; omega) (fun k => by unfold u_sg; omega)) (by rw [q_F_I t2 49 3 (by unfold u_sg; omega)]; exact hM.2.2.1) t4 (u_KR_F hM.2.2.2.2.1 hW.2.2.2.2.1.1 t2 (by unfold u_sg; omega) (fun a k q => by unfold u_sg at q; omega)), x_rG_q t2 (fun a k q => by unfold u_sg at q; omega)⟩, t3⟩
  · exact x_thr (e := 1) (k := 1) (v := 0) hC hW List.mem_cons_self (by decide) (s_156r (d := d + 26) hC.1.1 h0 h1 h2 h3 hx) (fun M hM => t_274r (d := d + 29) (x_eL hM) (x_eR hM) hl hr h0 h1 h2 h3 hx)
theorem x_157 (hC : x_Cl m L R A B t lw X w f N q P K G) (hW : x_Wf L R t X P K G) : x_ok sp (d + 30) (d + 30) z_i 157 275 [] [] m ((L, R, A, B, t, lw, X), w, f, N, q, P, K, G) := by
  obtain ⟨r1, r2, r3, r4, r5, r6, r7, r8⟩ := hC
  refine x_anp (v := (P.length : Int)) (w' := w) (f' := f) (N' := N) (q' := q) (P' := []) (K' := K) (x_Wf_P hW u_Pk_0) ?_ (fun M hM => ?_)
  · obtain ⟨m1, c1, c2, c3⟩ := s_157 (sp := sp) (ph := true) (d := d + 28) r5
    exact ⟨m1, c1, x_Cl_e ⟨r1, r2, r3, r4, r5, r6, r7, r8⟩ c2 (fun a k q => by unfold u_sf at q; omega) (u_C_F r1 c2 (fun a k q => by unfold u_sf at q; omega)) (x_Ct_F r3 c2 (by unfold u_sf; omega) (fun k => by unfold u_sf; omega)) (by rw [q_F_I c2 0 12 (by unfold u_sf; omega)]; exact r4) c3 (u_KC_F r6 c2 (by unfold u_sf; omega) (fun k => by unfold u_sf; omega)), x_cG_q c2 (fun a k q => by unfold u_sf at q; omega)⟩
  · have t2 : q_F u_sg M (y_sI (y_sI M 49 0 0) 49 14 0) := q_F_trans (q_F_sI (by unfold u_sg; omega)) (q_F_sI (by unfold u_sg; omega))
    exact ⟨_, t_275 (sp := sp) (ph := true) (d := d + 29) hM.2.2.2.1, ⟨x_Rf_e hM hW.2.2.2.2.2.1 t2 (fun a k q => by unfold u_sg at q; omega) (u_R_F hM.1 t2 (fun a k q => by unfold u_sg at q; unfold q_wr; omega)) (x_Rt_F hM.2.1 t2 (by unfold u_sg; omega) (fun k => by unfold u_sg; omega)) (by rw [q_F_I t2 49 3 (by unfold u_sg; omega)]; exact hM.2.2.1) (u_PR_0 e_II) (u_KR_F hM.2.2.2.2.1 hW.2.2.2.2.1.1 t2 (by unfold u_sg; omega) (fun a k q => by unfold u_sg at q; omega)), x_rG_q t2 (fun a k q => by unfold u_sg at q; omega)⟩, by rw [e_II' (by omega), e_II]⟩
theorem x_163 (hC : x_Cl m L R A B t lw X w f N q P K G) (hW : x_Wf L R t X P K G) : x_ok sp (d + 30) (d + 31) z_i 163 288 [] [(2, 1)] m ((L, R, A, B, t, lw, X), w, f, N, q, P, K, G) := by
  have hlt := u_w12 hC.1.1
  by_cases hn : w = []
  · subst hn
    exact x_thr (e := 2) (k := 1) (v := 0) hC hW List.mem_cons_self (by decide) (s_163n (d := d + 28) hC.1.1) (fun M hM => t_288n (d := d + 28) (x_V hM))
  · obtain ⟨r1, r2, r3, r4, r5, r6, r7, r8⟩ := hC
    by_cases h4 : K.length = 4
    · refine x_ans (v := -1) hW ⟨m, s_163f (d := d + 27) r1.1 hn r6 h4, ⟨r1, r2, r3, r4, r5, r6, r7, r8⟩, x_cG_refl⟩ (fun M hM => ?_)
      obtain ⟨a, b, e⟩ := x_r0 (z := 0) hM hW
      exact ⟨_, t_288f (d := d + 28) (x_V hM) hn hM.2.2.2.2.1 h4, ⟨a, b⟩, e⟩
    · have h4' : K.length < 4 := by have := hW.2.2.2.2.1.1; omega
      refine x_anp (v := (K.length : Int) + 1) (w' := w) (f' := f) (N' := N) (q' := q) (P' := P) (K' := K ++ [w]) (x_Wf_K hW (u_Kk_add hW.2.2.2.2.1 h4' hn r1.1.W.2.1 hlt)) ?_ (fun M hM => ?_)
      · obtain ⟨m1, c1, c2, c3⟩ := s_163 (sp := sp) (ph := true) (d := d + 24) r1.1 hn r6 h4'
        exact ⟨m1, c1, x_Cl_e ⟨r1, r2, r3, r4, r5, r6, r7, r8⟩ c2 (fun a k q => by unfold u_kf at q; omega) (u_C_F r1 c2 (fun a k q => by unfold u_kf at q; omega)) (x_Ct_F r3 c2 (by unfold u_kf; omega) (fun k => by unfold u_kf; omega)) (by rw [q_F_I c2 0 12 (by unfold u_kf; omega)]; exact r4) (u_PC_F r5 c2 (fun k => by unfold u_kf; omega) (fun k => by unfold u_kf; omega)) c3, x_cG_q c2 (fun a k q => by unfold u_kf at q; omega)⟩
      · obtain ⟨m2, t1, t2, t3, t4⟩ := t_288 (sp := sp) (ph := true) (d := d + 28) (x_V hM) hn hM.2.2.2.2.1 h4'
        exact ⟨m2, t1, ⟨x_Rf_e hM hW.2.2.2.2.2.1 t2 (fun a k q => by unfold u_kr at q; omega) (u_R_F hM.1 t2 (fun a k q => by unfold u_kr at q; unfold q_wr; omega)) (x_Rt_F hM.2.1 t2 (by unfold u_kr; omega) (fun k => by unfold u_kr; omega)) (by rw [q_F_I t2 49 3 (by unfold u_kr; omega)]; exact hM.2.2.1) (u_PR_F hM.2.2.2.1 hW.2.2.2.1.1 t2 (by unfold u_kr; omega) (fun a k q => by unfold u_kr at q; omega)) t4, x_rG_q t2 (fun a k q => by unfold u_kr at q; omega)⟩, t3⟩
theorem x_164 (hC : x_Cl m L R A B t lw X w f N q P K G) (hW : x_Wf L R t X P K G) : x_ok sp (d + 30) (d + 30) z_i 164 289 [] [] m ((L, R, A, B, t, lw, X), w, f, N, q, P, K, G) := by
  obtain ⟨r1, r2, r3, r4, r5, r6, r7, r8⟩ := hC
  refine x_anp (v := (K.length : Int)) (w' := w) (f' := f) (N' := N) (q' := q) (P' := P) (K' := []) (x_Wf_K hW x_Kk_0) ?_ (fun M hM => ?_)
  · have c2 : q_F u_kf m (y_sI m 22 3 0) := q_F_sI (by unfold u_kf; omega)
    exact ⟨_, s_164 (sp := sp) (ph := true) (d := d + 29) r6, x_Cl_e ⟨r1, r2, r3, r4, r5, r6, r7, r8⟩ c2 (fun a k q => by unfold u_kf at q; omega) (u_C_F r1 c2 (fun a k q => by unfold u_kf at q; omega)) (x_Ct_F r3 c2 (by unfold u_kf; omega) (fun k => by unfold u_kf; omega)) (by rw [q_F_I c2 0 12 (by unfold u_kf; omega)]; exact r4) (u_PC_F r5 c2 (fun k => by unfold u_kf; omega) (fun k => by unfold u_kf; omega)) (u_KC_0 e_II), x_cG_q c2 (fun a k q => by unfold u_kf at q; omega)⟩
  · have t2 : q_F u_kr M (y_sI (y_sI M 49 0 0) 49 15 0) := q_F_trans (q_F_sI (by unfold u_kr; omega)) (q_F_sI (by unfold u_kr; omega))
    exact ⟨_, t_289 (sp := sp) (ph := true) (d := d + 29) hM.2.2.2.2.1, ⟨x_Rf_e hM hW.2.2.2.2.2.1 t2 (fun a k q => by unfold u_kr at q; omega) (u_R_F hM.1 t2 (fun a k q => by unfold u_kr at q; unfold q_wr; omega)) (x_Rt_F hM.2.1 t2 (by unfold u_kr; omega) (fun k => by unfold u_kr; omega)) (by rw [q_F_I t2 49 3 (by unfold u_kr; omega)]; exact hM.2.2.1) (u_PR_F hM.2.2.2.1 hW.2.2.2.1.1 t2 (by unfold u_kr; omega) (fun a k q => by unfold u_kr at q; omega)) (u_KR_0 e_II), x_rG_q t2 (fun a k q => by unfold u_kr at q; omega)⟩, by rw [e_II' (by omega), e_II]⟩
end Calls
