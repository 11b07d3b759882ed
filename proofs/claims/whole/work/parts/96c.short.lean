/-! ===== against, tooShort ===== -/
section Short
variable {sp : Nat → Nat} {ph : Bool} {d : Nat} {m : y_m} {L R A B t lw X T : Nat} {w : List Nat}
theorem m_tv_is {W : Nat} {v : Int} (h : m_tv L A B lw W T v) : m_is v (m_P 0 L A B (m_hx lw L W T)) := by
  by_cases c : (∀ j, T.testBit j = true → W.testBit j = true) ∧ 3 ≤ n_pop T
  · refine m_is_congr (h.1 c.1 c.2) (fun x => m_P_congr (fun E => ?_))
    rw [m_RD_rx]
    exact ⟨fun g => ⟨c.1, c.2, g⟩, fun g => g.2.2⟩
  · rw [h.2 c]
    exact m_is_none (fun x hx => by
      obtain ⟨E, g, _⟩ := hx
      exact c ⟨g.1, g.2.1⟩)
theorem m_hx_E {W : Nat} {E : List (Nat × Nat)} (hW : W < 4096) (hin : ∀ j, W.testBit j = true → j < L + R) (g : m_hx lw L W T E) : m_E L R E ∧ E.length = n_pop T := by
  have hT : T < 4096 := by have := m_sub_le g.1; omega
  exact m_rx_E hT (fun j hj => hin j (g.1 j hj)) g.2.1 g.2.2
/-- the class knows its tours -/
theorem u_109 (hU : u_C m L R A B t lw X w) : ∃ m', y_V sp ph (d + 6) 109 [y_bo 2 0 8, y_bo 0 0 (y_mc m), y_bo 4 0 3] m = y_rV m' ∧ q_F m_Fq m m' ∧ u_C m' L R A B t lw X w ∧ ∀ T, T < 4096 → m_is (y_mJ m' 10 T) (m_P 0 L A B (m_hx lw L (c_wh L R t) T)) := by
  obtain ⟨hK, hWs, hQ, hFi⟩ := hU
  obtain ⟨m1, a1, a2, a3, a4, a5⟩ := s_109 (sp := sp) (ph := ph) (d := d) hQ hK.et hK.t4 hFi
  have ec : y_mc m1 = y_mc m := a2.2.2.1
  have hb := hK.b
  refine ⟨m1, a1, a2, ⟨c_K_G hK a2 (fun a k q => by unfold m_Fq m_Fp at q; omega), c_Ws_F hWs a2 (by unfold m_Fq m_Fp; omega) (by unfold m_Fq m_Fp; omega), ?_, a3, Or.inr ⟨a4, a5⟩⟩, fun T hT => m_tv_is (a5 T hT)⟩
  rw [ec]
  exact m_Q_F hQ a2 (fun a k q => by unfold m_Fq m_Fp at q; omega)
theorem m_is_lt {v : Int} {P : Int → Prop} (h : m_is v P) : v ≤ m_F := by
  rcases h with ⟨q, _⟩ | ⟨_, q, _⟩ <;> omega
theorem m_is_low {W : Nat} {v : Int} (hB : m_B L R A B) (hW : W < 4096) (hin : ∀ j, W.testBit j = true → j < L + R) (h : m_is v (m_P 0 L A B (m_hx lw L W T))) (hv : v ≠ m_F) : 0 ≤ v ∧ v ≤ 4000000000000000000 := by
  obtain ⟨E, e1, e2⟩ := m_is_mem h hv
  have hE := m_hx_E hW hin e1
  have hb := m_S_b (what := 0) hB (w_okb hE.1.1)
  have hT : T < 4096 := by have := m_sub_le e1.1; omega
  have hpl := n_pop_le hT
  have f1 := m_dec_fx false hB hE.1
  have p1 := (m_dec_D false hB hE.1).2.2
  rw [q_fx_nat p1] at f1
  have t1 : 0 ≤ q_TT false := by decide
  have := Int.mul_nonneg p1.1 t1
  have e3 : m_S 0 L A B E = w_S (w_f false L A B) E := by rw [m_S_eq]; rfl
  rw [hE.2] at hb
  rw [e2]
  refine ⟨by rw [e3, ← f1]; omega, by omega⟩
theorem m_gr_S {what : Nat} {kd : Nat → Nat → Bool} {s : Nat} {M : Int} : ∀ (f : Nat) (md : Option (Bool × Bool)) (last rest : Nat) (pre : Int) (u : List Nat), m_gr what L A B lw kd s M (f + 1) md last rest pre u → pre + m_S what L A B (m_eu s last u) ≤ M + 64
  | 0, md, last, rest, pre, u, g => by
    obtain ⟨h, u', rfl, ⟨h1, h2, E, h3, h4⟩, _, h6⟩ := g
    have : u' = [] := h6
    subst this
    obtain ⟨_, _, rfl⟩ := h3
    show pre + (m_w what L A B (w_e last h) + m_S what L A B [w_e h s]) ≤ _
    omega
  | f + 1, md, last, rest, pre, u, g => by
    obtain ⟨h, u', rfl, _, _, h6⟩ := g
    have := m_gr_S f _ h _ _ u' h6
    show pre + (m_w what L A B (w_e last h) + m_S what L A B (m_eu s h u')) ≤ _
    omega
/-- the reference's shortest round of a set, near the class's least number -/
theorem t_254z {M : Int} {W : Nat} (hW : W = c_wh L R t) (hc : m_Ch m L R A B lw t) (hT : ∀ j, T.testBit j = true → W.testBit j = true) (h3 : 3 ≤ n_pop T) (hM : m_is M (m_P 0 L A B (m_hx lw L W T))) : (M = m_F ∧ ∃ m', y_V sp ph (d + 7) 254 [y_bo 11 0 49, y_bi (T : Int), y_bi 0] m = y_rL (-1) m' ∧ q_F m_25 m m') ∨ ∃ E F m', y_V sp ph (d + 7) 254 [y_bo 11 0 49, y_bi (T : Int), y_bi 0] m = y_rL (w_code L A B E : Int) m' ∧ q_F m_25 m m' ∧ m_E L R E ∧ m_E L R F ∧ M = m_S 0 L A B F ∧ M ≤ m_S 0 L A B E ∧ m_S 0 L A B E ≤ M + 64 ∧ M ≠ m_F := by
  have hB := hc.2.2.2.2.2.2.2.2.2
  have hWl : W < 4096 := by rw [hW]; exact c_wh_lt hB.1 hB.2.1
  have hinW : ∀ j, W.testBit j = true → j < L + R := fun j hj => by rw [hW] at hj; exact c_wh_in hj
  have hT4 : T < 4096 := by have := m_sub_le hT; omega
  have hin : ∀ j, T.testBit j = true → j < L + R := fun j hj => hinW j (hT j hj)
  have hM2 : m_is M (m_P 0 L A B (m_rx lw L T)) := m_is_congr hM (fun x => m_P_congr (fun E => ⟨fun g => g.2.2, fun g => ⟨hT, h3, g⟩⟩))
  by_cases q : M = m_F
  · have hno := (m_is_F hM2).mp q
    obtain ⟨m1, a1, a2⟩ := t_254x (sp := sp) (ph := ph) (d := d) (what := 0) hc (by omega) hT4 h3 hin (fun E g => hno _ ⟨E, g, rfl⟩)
    exact Or.inl ⟨q, m1, a1, a2⟩
  · obtain ⟨u, m1, a1, a2, a3, a4, a5, a6, a7⟩ := t_254y (sp := sp) (ph := ph) (d := d) (what := 0) hc (by omega) hT4 h3 hin hM2 q
    have hx := m_gr_rx h3 a7
    rw [show n_pop T - 1 = (n_pop T - 2) + 1 by omega] at a7
    have hS := m_gr_S _ _ _ _ _ _ a7
    obtain ⟨F, f1, f2⟩ := m_is_mem hM2 q
    have hle := m_is_le hM2 ⟨_, hx, rfl⟩
    exact Or.inr ⟨_, F, m1, a1, a2, (m_rx_E hT4 hin h3 hx).1, (m_rx_E hT4 hin h3 f1).1, f2, hle, by omega, q⟩
/-- the way's spans -/
theorem c_K_E (hK : c_K m L R A B t lw X w) (hn : w ≠ []) : ∃ s u, w = s :: u ∧ 2 ≤ u.length ∧ m_E L R (m_eu s s u) ∧ (m_eu s s u).length ≤ 12 ∧ (∀ x ∈ s :: u, x < L + R) ∧ (m_eu s s u).length = w.length := by
  have hlt := c_K_lt hK
  have hnd := hK.nd
  have hlen := hK.len
  have hl12 := hK.W.2.1
  match w, hn, hlt, hnd, hlen, hl12 with
  | s :: u, _, hlt, hnd, hlen, hl12 =>
    have h3 : 3 ≤ (s :: u).length := hlen.resolve_left (by simp)
    have hu : 2 ≤ u.length := by rw [List.length_cons] at h3; omega
    have hE := m_way_E (n := L + R) hnd hu hlt
    rw [List.length_cons] at hl12
    exact ⟨s, u, rfl, hu, ⟨⟨hE.1, hE.2.1⟩, by rw [hE.2.2]; omega⟩, by rw [hE.2.2]; omega, hlt, by rw [hE.2.2, List.length_cons]⟩
def m_ag (own least : Int) : Int := if own + 64 < least then -2 else if least + 64 < own then 1 else 0
theorem s_149n (hU : u_C m L R A B t lw X []) : y_V sp true (d + 2) 149 [y_bo 10 0 0] m = some (.inr 2, y_tm m) := by
  rw [y_C_149, y_E_149_0, s_171n hU.1.W]; rfl
theorem s_149 (hU : u_C m L R A B t lw X w) (hn : w ≠ []) : ∃ M m', m_is M (m_P 0 L A B (m_hx lw L (c_wh L R t) (q_bits w))) ∧ y_V sp ph (d + 7) 149 [y_bo 10 0 0] m = y_rI (if M = m_F then -1 else m_ag (q_S (q_len (y_mJ m 4) L B w) 0 w.length) M) m' ∧ q_F m_Fq m m' ∧ u_C m' L R A B t lw X w := by
  have hK := hU.1
  have hB := hU.2.2.1.1
  have s171 := s_171y (sp := sp) (ph := ph) (d := d + 5) hK.W hn
  obtain ⟨m1, a1, a2, a3, a4⟩ := u_109 (sp := sp) (ph := ph) (d := d) hU
  have hK1 := a3.1
  have ec : y_mc m1 = y_mc m := a2.2.2.1
  have hb4 := q_bits_lt (c_K_12 hK)
  have s67 := s_67 (sp := sp) (ph := ph) (d := d + 3) (m := m1) hK1.W (c_K_12 hK)
  have s110 := s_110 (sp := sp) (ph := ph) (d := d + 4) (m := m1) hb4
  have hM := a4 _ hb4
  have hQ1 := a3.2.2.1
  have hWl := c_wh_lt (t := t) hB.1 hB.2.1
  obtain ⟨s, u, hw, hu, hE, hE12, hlt, hlw⟩ := c_K_E hK hn
  have s54 := s_54 (sp := sp) (ph := ph) (d := d + 2) (m := m1) (a := 23) (b := y_mc m1) (w := w) (R := R) hK1.W hn (c_K_lt hK) hQ1.2.2.1 hB.1 hB.2.1 hQ1.2.2.2.2.2.1 hB.2.2.2.2.2.1
  have hJ4 : q_S (q_len (y_mJ m1 4) L B w) 0 w.length = q_S (q_len (y_mJ m 4) L B w) 0 w.length := by
    rw [hw]
    rw [m_len_w hQ1 hlt, m_len_w hU.2.2.1 hlt]
  rw [hJ4] at s54
  have hown : q_S (q_len (y_mJ m 4) L B w) 0 w.length = m_S 0 L A B (m_eu s s u) := by rw [hw]; exact m_len_w hU.2.2.1 hlt
  have hbw := m_S_b (what := 0) hB (w_okb hE.1)
  rw [← hown] at hbw
  generalize q_S (q_len (y_mJ m 4) L B w) 0 w.length = own at *
  refine ⟨_, m1, hM, ?_, a2, a3⟩
  have hMl := m_is_lt hM
  have hlow := fun q => m_is_low hB hWl (fun j hj => c_wh_in hj) hM q
  have lc : (z_w (z_lcmp (y_mJ m1 10 (q_bits w)) 9223372036854775807) = 0) = (y_mJ m1 10 (q_bits w) = m_F) := by
    by_cases q : y_mJ m1 10 (q_bits w) = m_F
    · rw [q]; exact propext ⟨fun _ => rfl, fun _ => by decide⟩
    · have := hlow q
      exact n_lc_eq (by omega) (by omega) (by omega) (by omega)
  rw [y_C_149, y_E_149_0, s171, e_bV, a1, e_bV, s67, e_bI, s110, e_bL]
  by_cases q : y_mJ m1 10 (q_bits w) = m_F
  · rw [if_neg (by rw [lc]; exact fun r => r q), if_pos q]
  · have hl := hlow q
    have s56a := s_56 (sp := sp) (ph := ph) (d := d + 5) (m := m1) (x := own) (y := y_mJ m1 10 (q_bits w)) (by omega) (by omega) (by omega) (by omega)
    have s56b := s_56 (sp := sp) (ph := ph) (d := d + 5) (m := m1) (x := y_mJ m1 10 (q_bits w)) (y := own) (by omega) (by omega) (by omega) (by omega)
    rw [if_pos (by rw [lc]; exact q), if_neg q, y_E_149_47, s54, e_bL, s56a, e_bI]
    unfold m_ag
    by_cases c1 : own + 64 < y_mJ m1 10 (q_bits w)
    · rw [decide_eq_true c1, if_neg (by decide), if_pos c1]
    · rw [decide_eq_false c1, if_pos (by decide), if_neg c1, y_E_149_77, s56b, e_bI]
      by_cases c2 : y_mJ m1 10 (q_bits w) + 64 < own
      · rw [decide_eq_true c2, if_neg (by decide), if_pos c2, y_E_149_90]
      · rw [decide_eq_false c2, if_pos (by decide), if_neg c2, y_E_149_89, y_E_149_90]
theorem t_256n (hU : u_R m L R A B t lw X []) : y_V sp ph (d + 8) 256 [y_bo 11 0 49] m = y_rI 0 (y_sI (y_sI m 49 0 0) 49 0 1) := by
  have hV := hU.2.2.2
  have hV0 : q_V (y_sI m 49 0 0) [] := ⟨by rw [e_II' (by omega)]; exact hV.1, hV.2.1, fun i hi => absurd hi (Nat.not_lt_zero _)⟩
  have t230 := t_230b (sp := sp) (ph := ph) (d := d + 5) (m := y_sI m 49 0 0) e_II hV0
  rw [y_C_256, y_E_256_0, t230, e_bI, if_neg (by decide)]
theorem q_V_F {P : Nat → Nat → Prop} {m' : y_m} (h : q_V m w) (hF : q_F P m m') (hP : ∀ a k, P a k → a ≠ 54 ∧ (a ≠ 49 ∨ k ≠ 13)) : q_V m' w := ⟨by rw [q_F_I hF 49 13 (fun q => by have := (hP _ _ q).2; omega)]; exact h.1, h.2.1, fun i hi => by rw [q_F_I hF 54 i (fun q => (hP _ _ q).1 rfl)]; exact h.2.2 i hi⟩
theorem t_256 {M : Int} {s : Nat} {u : List Nat} (hU : u_R m L R A B t lw X w) (hw : w = s :: u) (hlt : ∀ x ∈ w, x < L + R) (hE : m_E L R (m_eu s s u)) (hT : ∀ j, (q_bits w).testBit j = true → (c_wh L R t).testBit j = true) (h3 : 3 ≤ n_pop (q_bits w)) (hM : m_is M (m_P 0 L A B (m_hx lw L (c_wh L R t) (q_bits w)))) : ∃ m', y_V sp ph (d + 8) 256 [y_bo 11 0 49] m = y_rI (if M = m_F then -1 else m_ag (m_S 0 L A B (m_eu s s u)) M) m' ∧ q_F u_R25 m m' ∧ y_mI m' 49 0 = 0 := by
  have hF0 : q_F u_R25 m (y_sI m 49 0 0) := q_F_sI (by unfold u_R25; omega)
  have hF00 : q_F (fun a k => a = 49 ∧ k = 0) m (y_sI m 49 0 0) := q_F_sI ⟨rfl, rfl⟩
  have hc0 := m_Ch_F hU.1 hF00 (fun a k q => by unfold q_wr; omega)
  have hB := hU.1.2.2.2.2.2.2.2.2.2
  have hV0 := q_V_F hU.2.2.2 hF00 (fun a k q => by omega)
  have hn : w ≠ [] := by rw [hw]; simp
  have h12 : ∀ h ∈ w, h < 12 := fun h hh => by have := hlt h hh; have := hB.1; have := hB.2.1; omega
  have t230 := t_230a (sp := sp) (ph := ph) (d := d + 5) (m := y_sI m 49 0 0) e_II hV0 hn
  have t246 := t_246 (sp := sp) (ph := ph) (d := d + 6) (m := y_sI m 49 0 0) hV0 h12
  rcases t_254z (sp := sp) (ph := ph) (d := d) (m := y_sI m 49 0 0) (W := c_wh L R t) rfl hc0 hT h3 hM with ⟨q, m1, a1, a2⟩ | ⟨E, F, m1, a1, a2, hEE, hFF, f1, f2, f3, f4⟩
  · refine ⟨m1, ?_, q_F_trans hF0 (q_F_mono a2 (fun a k q => Or.inl q)), by rw [q_F_I a2 49 0 (by unfold m_25; omega), e_II]⟩
    rw [if_pos q, y_C_256, y_E_256_0, t230, e_bI, if_pos (by decide), y_E_256_14, t246, e_bI, a1, e_bL, if_neg (by decide)]
  · have hc1 := m_Ch_F hc0 a2 (fun a k q => by unfold m_25 at q; unfold q_wr; omega)
    have hV1 := q_V_F hV0 a2 (fun a k q => by unfold m_25 at q; omega)
    obtain ⟨k0, k1, kA, kB, k4, k6, klw, kt4, kR, _⟩ := hc1
    have t232 := t_232 (sp := sp) (ph := ph) (d := d + 3) (m := m1) (R := R) hV1 hn hlt k0 kA kB hB.1 hB.2.1 hB.2.2.2.1 hB.2.2.2.2.2.1
    have ecode : q_S (q_code L A B w) 0 w.length = (w_code L A B (m_eu s s u) : Int) := by rw [hw]; exact m_code_w
    rw [ecode] at t232
    have clE := m_code_lt hB hEE
    have clw := m_code_lt hB hE
    obtain ⟨m2, b1, b2⟩ := t_218 (sp := sp) (ph := ph) (d := d + 4) (m := m1) (pull := false) kR clw clE
    have b1' : y_V sp ph (d + 7) 218 [y_bo 11 0 49, y_bl (w_code L A B (m_eu s s u) : Int), y_bl (w_code L A B E : Int), y_bi 0] m1 = _ := b1
    have cmp := w_cmp (A := A) (B := B) false hB.1 hB.2.1 hB.2.2.2.1 hB.2.2.2.2.2.1 hE.1 hEE.1 hE.2 hEE.2
    have sep := q_sep false hB.2.2.2.2.2.2.1 hB.2.2.1 hB.2.2.2.2.2.2.2 cmp.1
    have eS : ∀ E, w_S (w_f false L A B) E = m_S 0 L A B E := fun E => by rw [m_S_eq]; rfl
    rw [cmp.2, eS, eS] at sep
    have g1 := m_gap (what := 0) hB hE hEE
    have g2 := m_gap (what := 0) hB hE hFF
    have lc : (z_w (z_lcmp (w_code L A B E : Int) (-1)) = 0) = ((w_code L A B E : Int) = -1) := n_lc_eq (by omega) (by omega) (by omega) (by omega)
    refine ⟨m2, ?_, q_F_trans hF0 (q_F_trans (q_F_mono a2 (fun a k q => Or.inl q)) (q_F_mono b2 (fun a k q => by unfold u_R25 m_25; omega))), by rw [q_F_I b2 49 0 (by omega), q_F_I a2 49 0 (by unfold m_25; omega), e_II]⟩
    rw [if_neg f4, y_C_256, y_E_256_0, t230, e_bI, if_pos (by decide), y_E_256_14, t246, e_bI, a1, e_bL, if_pos (by rw [lc]; omega), y_E_256_34, t232, e_bL, b1', e_bI, sep]
    unfold m_ag
    by_cases c1 : 64 < m_S 0 L A B (m_eu s s u) - m_S 0 L A B E
    · rw [if_pos c1, if_pos (by decide), y_E_256_54, y_E_256_55, if_neg (by omega), if_pos (by omega)]
    · rw [if_neg c1]
      by_cases c2 : m_S 0 L A B (m_eu s s u) - m_S 0 L A B E < -64
      · rw [if_pos c2, if_neg (by decide), y_E_256_55, if_pos (by omega)]
      · rw [if_neg c2, if_pos (by decide), y_E_256_54, y_E_256_55, if_neg (by omega), if_neg (by omega)]
end Short
