def m_25 (a k : Nat) : Prop := (a = 49 ∧ k = 33) ∨ (92 ≤ a ∧ a ≤ 94) ∨ a = 96 ∨ a = 97
section Best
variable {sp : Nat → Nat} {ph : Bool} {d : Nat} {m : y_m} {L R A B lw what S been idx : Nat} {i f : Bool}
theorem t_235m (hS : S < 4096) (h3 : 3 ≤ n_pop S) (g1 : y_mI m 52 0 = (L : Int)) (g2 : y_mI m 52 4 = (lw : Int)) (gA : y_mI m 52 2 = (A : Int)) (gB : y_mI m 52 3 = (B : Int)) (g4 : lw ≤ 2) (hR : q_RR m A B) (hB : m_B L R A B) (hin : ∀ j, S.testBit j = true → j < L + R) : ∃ m', y_V sp ph (d + 1) 235 [y_bo 11 0 49, y_bi (S : Int)] m = y_rV m' ∧ q_F (fun a k => (a = 49 ∧ k = 33) ∨ a = 94) m m' ∧ m_Cb m' L R A B lw S := by
  obtain ⟨m1, a1, a2, a3⟩ := t_235 (sp := sp) (ph := ph) (d := d) (m := m) hS
  exact ⟨m1, a1, a2, ⟨by rw [q_F_I a2 52 0 (by omega)]; exact g1, by rw [q_F_I a2 52 4 (by omega)]; exact g2, hB.1, g4, a3, hS, by omega⟩, by rw [q_F_I a2 52 2 (by omega)]; exact gA, by rw [q_F_I a2 52 3 (by omega)]; exact gB, q_RR_F hR a2 (fun a k q => by unfold q_wr; omega), hB, hin⟩
theorem t_254a (hw : what ≤ 2) (hS : S < 4096) (h3 : 3 ≤ n_pop S) (g1 : y_mI m 52 0 = (L : Int)) (g2 : y_mI m 52 4 = (lw : Int)) (gA : y_mI m 52 2 = (A : Int)) (gB : y_mI m 52 3 = (B : Int)) (g4 : lw ≤ 2) (hR : q_RR m A B) (hB : m_B L R A B) (hin : ∀ j, S.testBit j = true → j < L + R) (hno : ∀ E, ¬ m_RX lw L S E) : ∃ m', y_V sp ph (d + 7) 254 [y_bo 11 0 49, y_bi (S : Int), y_bi (what : Int)] m = y_rL (-1) m' ∧ q_F m_25 m m' := by
  obtain ⟨m1, a1, a2, a3⟩ := t_235m (sp := sp) (ph := ph) (d := d + 5) (m := m) hS h3 g1 g2 gA gB g4 hR hB hin
  obtain ⟨m2, c1, c2, c3, c4⟩ := t_250 (sp := sp) (ph := ph) (d := d) hw a3
  obtain ⟨m3, e1, e2⟩ := l_254a (sp := sp) (ph := ph) (d := d + 2) hw h3 (n_pop S - 1) 1 (0, -1) m2 (by omega) (by omega) c3 c4 (by decide) (by decide)
  have gd := m_fk_gd (what := what) (j0 := 1) (N := n_pop S) (g := m_sj A B L lw what S) (P := m_Ps lw L S) hB hw (fun h E g => (m_RX_ok c3 h3 (m_Ps_RX hS g)).1) (fun h p1 p2 => m_sj_rf c3 h3 hw p1 p2) (n_pop S - 1) 1 (0, -1) (by omega) (by omega) m_gd_0
  have hv : (m_fk A B what (m_sj A B L lw what S) (n_pop S - 1) 1 (0, -1)).2 = -1 := (m_rf_F gd.1).mpr (fun E q => by
    obtain ⟨h, _, _, q⟩ := q
    exact hno E (m_Ps_RX hS q))
  have e1' : y_R sp ph (d + 6) 254 20 [some (y_bo 11 0 49), none, some (y_bi (what : Int)), some (y_bl (-1)), none, some (y_bi 0), some (y_bi 1), none, none, none, none, none, none, none, none, none, none] [] m2 = _ := e1
  rw [hv] at e1'
  refine ⟨m3, ?_, q_F_trans (q_F_mono a2 (fun a k q => by unfold m_25; omega)) (q_F_trans (q_F_mono c2 (fun a k q => by unfold m_96 at q; unfold m_25; omega)) (q_F_mono e2 (fun a k q => by unfold m_9 at q; unfold m_25; omega)))⟩
  rw [y_C_254, y_E_254_0, a1, e_bV, c1, e_bV, e1', y_E_254_81, if_neg (by decide)]
theorem t_254b {M : Int} (hw : what ≤ 2) (hS : S < 4096) (h3 : 3 ≤ n_pop S) (g1 : y_mI m 52 0 = (L : Int)) (g2 : y_mI m 52 4 = (lw : Int)) (gA : y_mI m 52 2 = (A : Int)) (gB : y_mI m 52 3 = (B : Int)) (g4 : lw ≤ 2) (hR : q_RR m A B) (hB : m_B L R A B) (hin : ∀ j, S.testBit j = true → j < L + R) (hM : ∀ E, m_RX lw L S E → M ≤ m_S what L A B E) {EM : List (Nat × Nat)} (hEM : m_RX lw L S EM ∧ M = m_S what L A B EM) : ∃ u m', y_V sp ph (d + 7) 254 [y_bo 11 0 49, y_bi (S : Int), y_bi (what : Int)] m = y_rL (w_code L A B (m_eu (r_hs S 0) (r_hs S 0) u) : Int) m' ∧ q_F m_25 m m' ∧ y_mI m' 49 33 = n_pop S ∧ y_mI m' 97 0 = (r_hs S 0 : Int) ∧ (∀ j, j + 1 < n_pop S → y_mI m' 97 (1 + j) = ((u.getD j 0 : Nat) : Int)) ∧ u.length = n_pop S - 1 ∧ m_gr what L A B lw (r_x L) (r_hs S 0) M (n_pop S - 1) none (r_hs S 0) (r_rest S 0) 0 u ∧ ∃ E, m_RX lw L S E ∧ w_code L A B E = w_code L A B (m_eu (r_hs S 0) (r_hs S 0) u) ∧ m_S what L A B E ≤ M + 64 := by
  obtain ⟨m1, a1, a2, a3⟩ := t_235m (sp := sp) (ph := ph) (d := d + 5) (m := m) hS h3 g1 g2 gA gB g4 hR hB hin
  obtain ⟨m2, c1, c2, c3, c4⟩ := t_250 (sp := sp) (ph := ph) (d := d) hw a3
  obtain ⟨m3, e1, e2⟩ := l_254a (sp := sp) (ph := ph) (d := d + 2) hw h3 (n_pop S - 1) 1 (0, -1) m2 (by omega) (by omega) c3 c4 (by decide) (by decide)
  have gd := m_fk_gd (what := what) (j0 := 1) (N := n_pop S) (g := m_sj A B L lw what S) (P := m_Ps lw L S) hB hw (fun h E g => (m_RX_ok c3 h3 (m_Ps_RX hS g)).1) (fun h p1 p2 => m_sj_rf c3 h3 hw p1 p2) (n_pop S - 1) 1 (0, -1) (by omega) (by omega) m_gd_0
  have e1' : y_R sp ph (d + 6) 254 20 [some (y_bo 11 0 49), none, some (y_bi (what : Int)), some (y_bl (-1)), none, some (y_bi 0), some (y_bi 1), none, none, none, none, none, none, none, none, none, none] [] m2 = _ := e1
  have hp := n_pop_le hS
  generalize m_fk A B what (m_sj A B L lw what S) (n_pop S - 1) 1 (0, -1) = pv at *
  obtain ⟨to, v⟩ := pv
  dsimp only at *
  have hvne : v ≠ -1 := fun e => by
    obtain ⟨j, hj⟩ := m_RX_Ps hS (by omega) hEM.1
    exact (m_rf_F gd.1).mp e EM ⟨j, hj.1, hj.2.1, hj⟩
  obtain ⟨t1, t2, t3, t4⟩ := gd.2 hvne
  dsimp only at t1 t2 t3 t4
  obtain ⟨o1, o2, o3, o4, o5, o6⟩ := r_sh hS t1 t2
  have hpr := n_pop_rm (r_rest_lt S 0) o5
  have hp0 : n_pop (r_rest S 0) + 1 = n_pop S := by
    rw [r_rest_0 hS (by omega)]
    refine n_pop_rm hS ?_
    rw [← r_hs_0 S]; exact (r_hs_B (show 0 < n_pop S by omega)).2.1
  have hwne : m_bw A B L lw what S (1 <<< (to - 1)) to (r_x L (r_hs S 0) (r_hs S to)) (r_x L (r_hs S 0) (r_hs S to)) ≠ -1 := fun e => by
    unfold m_sj at t3
    rw [e] at t3; exact hvne t3
  have a := m_bw_rf (i := r_x L (r_hs S 0) (r_hs S to)) (f := r_x L (r_hs S 0) (r_hs S to)) c3 hw o2 t1 t2 o3
  rw [o4, show n_pop (w_rm (r_rest S 0) (r_hs S to)) = n_pop S - 2 by omega] at a
  rcases a with ⟨b1, _⟩ | ⟨E', b1, b2, b3⟩
  · exact absurd b1 hwne
  have P0 : m_Ps lw L S to (w_e (r_hs S 0) (r_hs S to) :: E') := ⟨t1, t2, E', b1, rfl⟩
  have hcv : v = (w_code L A B (w_e (r_hs S 0) (r_hs S to) :: E') : Int) := by
    rw [t3, m_sj, m_sp, if_neg hwne, b2, w_code_cons]; omega
  -- near the least
  have hnear : m_S what L A B (w_e (r_hs S 0) (r_hs S to) :: E') ≤ M + 64 := by
    rcases gd.1 with ⟨r1, r2⟩ | ⟨G, ⟨h2, r0, r1, r2⟩, r3, r4⟩
    · exact absurd r1 hvne
    · obtain ⟨j, hj⟩ := m_RX_Ps hS (by omega) hEM.1
      have := r4 EM ⟨j, hj.1, hj.2.1, hj⟩
      have e : w_code L A B (w_e (r_hs S 0) (r_hs S to) :: E') = w_code L A B G := by
        have : (w_code L A B (w_e (r_hs S 0) (r_hs S to) :: E') : Int) = (w_code L A B G : Int) := by rw [← hcv]; exact r3
        omega
      rw [m_S_code (what := what) hB (m_RX_ok c3 h3 (m_Ps_RX hS P0)).1 (m_RX_ok c3 h3 (m_Ps_RX hS r2)).1 e, hEM.2]
      exact this
  have hc3 := m_Cb_9 c3 (m_9_96 e2)
  have hbs3 := m_bs_9 c4 e2
  have hF2 : q_F (fun a _ => a = 97) m3 (y_sI (y_sI m3 97 0 (r_hs S 0)) 97 1 (r_hs S to)) := q_F_trans (q_F_sI rfl) (q_F_sI rfl)
  have hc4 := m_Cb_F hc3 hF2 (fun a k q => by unfold q_wr; omega)
  have hbs4 : m_bs (y_sI (y_sI m3 97 0 (r_hs S 0)) 97 1 (r_hs S to)) L A B lw what S 1 := hbs3
  obtain ⟨u, m4, f1, f2, f3, f4, f5, f6, f7⟩ := l_254b (sp := sp) (ph := ph) (d := d + 2) (x3 := v) (M := M) (f := r_x L (r_hs S 0) (r_hs S to)) hw h3 hM hEM (n_pop S - 2) 2 (1 <<< (to - 1)) to (r_x L (r_hs S 0) (r_hs S to)) [w_e (r_hs S 0) (r_hs S to)] _ (by omega) (by rw [o4]; omega) hc4 hbs4 o2 t2 t1 o3 (fun E hE => by
    rw [o4] at hE
    exact m_Ps_RX hS ⟨t1, t2, E, hE, rfl⟩) ⟨E', by rw [o4]; exact b1, b2, by rw [m_S_cons] at hnear; show (_ + 0) + _ ≤ _; omega⟩
  have hveu : v = (w_code L A B (m_eu (r_hs S 0) (r_hs S 0) (r_hs S to :: u)) : Int) := by
    rw [hcv, m_eu, w_code_cons, w_code_cons]
    omega
  refine ⟨r_hs S to :: u, m4, ?_, q_F_trans (q_F_mono a2 (fun a k q => by unfold m_25; omega)) (q_F_trans (q_F_mono c2 (fun a k q => by unfold m_96 at q; unfold m_25; omega)) (q_F_trans (q_F_mono e2 (fun a k q => by unfold m_9 at q; unfold m_25; omega)) (q_F_trans (q_F_mono hF2 (fun a k q => by unfold m_25; omega)) (q_F_mono f2 (fun a k q => by unfold m_25; omega))))), ?_, ?_, fun j hj => ?_, by rw [List.length_cons, f5]; omega, ?_, _, m_Ps_RX hS P0, ?_, hnear⟩
  · rw [← hveu]
    obtain ⟨⟨k1, k2, k3, k4, ⟨k5, k6⟩, k7, k8⟩, _⟩ := hc3
    have h1 := (r_hs_B (show 0 < n_pop S by omega)).1
    have h2 := (r_hs_B t2).1
    have e0 := k6 0 (by omega)
    have et := k6 to t2
    have et' : y_mI m3 94 (to : Int).toNat = (r_hs S to : Int) := k6 to t2
    have et2 : y_mI (y_sI m3 97 0 (r_hs S 0)) 94 (to : Int).toNat = (r_hs S to : Int) := by rw [e_II' (by omega)]; exact k6 to t2
    have e1n : (to : Int) - 1 = ((to - 1 : Nat) : Int) := by omega
    have k12 : ∀ (w : Nat) (r : y_Rs), w < 12 → y_g (0 ≤ (w : Int) ∧ (w : Int) < (12 : Int)) r = r := fun w r h => e_g ⟨by omega, by omega⟩
    have ht12 : to < 12 := by omega
    have vb := m_rf_b hB (fun E q => by obtain ⟨h, _, _, q⟩ := q; exact (m_RX_ok c3 h3 (m_Ps_RX hS q)).1) gd.1
    have lc : (z_w (z_lcmp v (-1)) = 0) = (v = -1) := n_lc_eq (by omega) (by omega) (by omega) (by omega)
    have f1' : y_R sp ph (d + 6) 254 156 [some (y_bo 11 0 49), none, some (y_bi (what : Int)), some (y_bl v), none, none, some (y_bi ((1 <<< (to - 1) : Nat) : Int)), some (y_bi (to : Int)), some (y_bi (n_b (r_x L (r_hs S 0) (r_hs S to)))), some (y_bi (n_b (r_x L (r_hs S 0) (r_hs S to)))), some (y_bi 2), none, none, none, none, none, none] [] _ = _ := f1
    rw [y_C_254, y_E_254_0, a1, e_bV, c1, e_bV, e1', y_E_254_81, if_pos (by rw [lc]; exact hvne), y_E_254_93, k12 _ _ ht12, e0, et', t_211 k1 k3 (by omega) (by omega), e_bI, k12 _ _ ht12, e1n, o6, e0, et2]
    exact f1'
  · have := q_F_I f2 49 33 (by omega)
    rw [this]; exact hc4.1.2.2.2.2.1.1
  · rw [f3 0 (by omega), e_II' (by omega), e_II]
  · by_cases q : j = 0
    · subst q
      rw [f3 (1 + 0) (by omega), e_II]; rfl
    · obtain ⟨j', hj'⟩ : ∃ j', j = j' + 1 := ⟨j - 1, by omega⟩
      subst hj'
      rw [show 1 + (j' + 1) = 2 + j' by omega, f4 j' (by omega)]
      rfl
  · have hfu : n_pop S - 1 = (n_pop S - 2) + 1 := by omega
    rw [hfu]
    refine ⟨r_hs S to, u, rfl, ⟨o5, trivial, E', b1, by rw [m_S_cons] at hnear; omega⟩, ?_, ?_⟩
    · rintro h' hlt ⟨r1, _, E2, r3, r4⟩
      have hb' := (r_rest_bit hS).mp r1
      have h12 : h' < 12 := by have := (r_hs_B t2).1; omega
      have hix := r_ix_lt hb'.1 h12
      rw [r_ix_12] at hix
      have eh := r_hs_ix hb'.1 h12
      have hlt2 : r_ix S h' < to := (r_hs_lt hix t2).mp (by rw [eh]; exact hlt)
      have P1 : m_Ps lw L S (r_ix S h') (w_e (r_hs S 0) h' :: E2) := ⟨hb'.2.1, hix, E2, by rw [eh]; exact r3, by rw [eh]⟩
      have t4' := t4 _ hb'.2.1 hlt2 _ _ P1 P0 hcv
      have hM2 := hM _ (m_Ps_RX hS P0)
      rw [m_S_cons] at t4' hM2
      rw [m_S_cons] at t4'
      omega
    · rw [o4] at f6
      have e0 : m_S what L A B [w_e (r_hs S 0) (r_hs S to)] = 0 + m_w what L A B (w_e (r_hs S 0) (r_hs S to)) := by
        show _ + 0 = _; omega
      rw [e0] at f6
      exact f6
  · have : (w_code L A B (w_e (r_hs S 0) (r_hs S to) :: E') : Int) = (w_code L A B (m_eu (r_hs S 0) (r_hs S 0) (r_hs S to :: u)) : Int) := by rw [← hcv, ← hveu]
    omega
end Best
