section Boot
variable {sp : Nat → Nat} {ph : Bool} {d : Nat} {m : y_m} {f : Nat → Int} {n p cnt : Nat} {e q : Int} {g : Nat → Nat}
theorem s_16 {N : Nat} (h : u_Ct m f N) (hn : n ≤ N) : ∃ m', y_V sp ph (d + 1) 16 [y_bo 6 0 1, y_bi (n : Int)] m = y_rV m' ∧ q_F (fun a k => a = 1 ∧ 2 ≤ k ∧ k ≤ 6) m m' ∧ u_TP m' f n 0 0 (-1) := by
  obtain ⟨h1, h2, h3⟩ := h
  have F0 : q_F (fun a k => a = 1 ∧ 2 ≤ k ∧ k ≤ 6) m (y_sI (y_sI (y_sI (y_sI (y_sI m 1 2 (n : Int)) 1 3 0) 1 4 0) 1 5 0) 1 6 (-1)) := q_F_trans (q_F_sI (by omega)) (q_F_trans (q_F_sI (by omega)) (q_F_trans (q_F_sI (by omega)) (q_F_trans (q_F_sI (by omega)) (q_F_sI (by omega)))))
  refine ⟨_, by rw [y_C_16, y_E_16_0], F0, ⟨by omega, fun i hi => (h3 i (by omega)).2⟩, Nat.zero_le _, ?_, ?_, ?_, ?_, by omega, by omega, fun i hi => ?_⟩
  · rw [e_II' (by omega), e_II' (by omega), e_II' (by omega), e_II' (by omega), e_II]
  · rw [e_II' (by omega), e_II' (by omega), e_II' (by omega), e_II]; rfl
  · rw [e_II' (by omega), e_II]
  · rw [e_II]
  · rw [q_F_I F0 2 i (fun r => by omega)]; exact (h3 i (by omega)).1
/-- the frame of a boot that is read, to the class -/
def u_cb (b a k : Nat) : Prop := (a = 1 ∧ 1 ≤ k ∧ k ≤ 6) ∨ a = b ∨ (a = 0 ∧ k = 12)
def u_ck (b a k : Nat) : Prop := u_cb b a k ∨ (a = 0 ∧ k = 11) ∨ a = 3 ∨ a = 4 ∨ a = 5 ∨ (a = 8 ∧ 4 ≤ k ∧ k ≤ 6) ∨ (a = 22 ∧ k = 3) ∨ (a = 23 ∧ k = 1) ∨ (a = 25 ∧ 1 ≤ k ∧ k ≤ 2)
def u_mb (m : y_m) : Prop := (y_mc m = 29 ∧ y_mx m = 30) ∨ (y_mc m = 30 ∧ y_mx m = 29)
theorem s_137n {N : Nat} {x : Int} (h : u_Ct m f N) (h0 : -2147483648 ≤ x) (h1 : x < 2147483648) (hx : ¬ (0 ≤ x ∧ x ≤ N)) : y_V sp true (d + 2) 137 [y_bo 10 0 0, y_bi x] m = some (.inr 0, y_tm m) := by
  have hN := h.2.1
  rw [y_C_137, y_E_137_0, z_w_id h0 h1]
  by_cases c : x < 0
  · rw [if_pos c, y_E_137_15]; rfl
  · have s14 : y_V sp true (d + 1) 14 [y_bo 6 0 1] m = y_rI (N : Int) m := by rw [y_C_14, y_E_14_0, h.1]
    rw [if_neg c, s14, e_bI, if_neg (by rw [z_w_id (by omega) (by omega)]; omega), y_E_137_15]; rfl
theorem l_137a {N : Nat} (hmb : u_mb m) (h : u_Ct m f N) (hn : n ≤ N) : ∃ p' g' e' q' m' v5, y_V sp true (d + 8) 137 [y_bo 10 0 0, y_bi (n : Int)] m = (if z_w v5 = 0 then y_R sp true (d + 7) 137 83 [some (y_bo 10 0 0), none, none] [] m' else y_bI (y_V sp true (d + 7) 18 [y_bo 6 0 1] m') (fun v6 m6 => y_rI (v6 - 10) m6) (fun e m1 => y_px e m1)) ∧ v5 = n_b (decide (e' ≠ 0)) ∧ q_F (u_cb (y_mx m)) m m' ∧ y_mI m' 1 1 = 0 ∧ y_mI m' 0 12 = q' ∧ u_TP m' f n p' e' q' ∧ u_BF m' (y_mx m) g' ∧ u_bx (u_bt f n 41 0 0 u_g0) g' e' q' (-1) := by
  have hN := h.2.1
  obtain ⟨m1, a1, a2, a3⟩ := s_16 (sp := sp) (ph := true) (d := d + 6) h hn
  have ex : y_mx m1 = y_mx m := a2.2.2.2.1
  have hb : y_mx m = 29 ∨ y_mx m = 30 := by unfold u_mb at hmb; omega
  obtain ⟨p', g', e', q', m2, b1, b2, b3, b4, b5⟩ := s_34 (sp := sp) (ph := true) (d := d) a3 hb
  have s14 : y_V sp true (d + 7) 14 [y_bo 6 0 1] m = y_rI (N : Int) m := by rw [y_C_14, y_E_14_0, h.1]
  have s15 : y_V sp true (d + 7) 15 [y_bo 6 0 1] m2 = y_rV (y_sI m2 1 1 0) := by rw [y_C_15, y_E_15_0]
  have hT : u_TP (y_sI m2 1 1 0) f n p' e' q' := by
    obtain ⟨g1, g2, g3, g4, g5, g6, g7, g8, g9⟩ := b3
    exact ⟨g1, g2, by rw [e_II' (by omega)]; exact g3, by rw [e_II' (by omega)]; exact g4, by rw [e_II' (by omega)]; exact g5, by rw [e_II' (by omega)]; exact g6, g7, g8, fun i hi => by rw [e_II' (by omega)]; exact g9 i hi⟩
  have s19 : y_V sp true (d + 7) 19 [y_bo 6 0 1] (y_sI m2 1 1 0) = y_rI q' (y_sI m2 1 1 0) := by rw [y_C_19, y_E_19_0, hT.2.2.2.2.2.1]
  have hT2 : u_TP (y_sI (y_sI m2 1 1 0) 0 12 q') f n p' e' q' := u_TP_sI hT (by omega) (by omega)
  have s17 := s_17 (sp := sp) (ph := true) (d := d + 6) hT2
  have F1 : q_F (u_cb (y_mx m)) m m1 := q_F_mono a2 (fun a k r => Or.inl ⟨r.1, by omega, r.2.2⟩)
  have F2 : q_F (u_cb (y_mx m)) m1 m2 := q_F_mono b2 (fun a k r => by unfold u_tb u_tf at r; unfold u_cb; omega)
  have F3 : q_F (u_cb (y_mx m)) m2 (y_sI (y_sI m2 1 1 0) 0 12 q') := q_F_trans (q_F_sI (by unfold u_cb; omega)) (q_F_sI (by unfold u_cb; omega))
  refine ⟨p', g', e', q', _, _, ?_, rfl, q_F_trans F1 (q_F_trans F2 F3), ?_, e_II, hT2, ?_, b5⟩
  · rw [y_C_137, y_E_137_0, if_neg (by rw [z_w_id (by omega) (by omega)]; omega), s14, e_bI, if_pos (by rw [z_w_id (by omega) (by omega), z_w_id (by omega) (by omega)]; omega), y_E_137_25, a1, e_bV, ex, b1, e_bV, s15, e_bV, s19, e_bI, s17, e_bI]
  · rw [e_II' (by omega), e_II]
  · refine ⟨b4.1, fun k hk => ?_⟩
    rw [e_II' (by omega), e_II' (by omega)]; exact b4.2 k hk
theorem s_137e {N : Nat} {x : Int × Int} (hmb : u_mb m) (h : u_Ct m f N) (hn : n ≤ N) (hx : u_bt f n 41 0 0 u_g0 = .inl x) : ∃ m', y_V sp true (d + 8) 137 [y_bo 10 0 0, y_bi (n : Int)] m = y_rI (x.1 - 10) m' ∧ q_F (u_cb (y_mx m)) m m' ∧ y_mI m' 1 1 = 0 ∧ y_mI m' 0 12 = x.2 := by
  obtain ⟨p', g', e', q', m1, v5, a1, a2, a3, a4, a5, a6, a7, a8⟩ := l_137a (sp := sp) (d := d) hmb h hn
  rw [hx] at a8
  obtain ⟨b1, b2, b3⟩ := a8
  have s18 : y_V sp true (d + 7) 18 [y_bo 6 0 1] m1 = y_rI e' m1 := by rw [y_C_18, y_E_18_0, a6.2.2.2.2.1]
  refine ⟨m1, ?_, a3, a4, by rw [a5]; exact b2⟩
  rw [a1, a2, decide_eq_true (show e' ≠ 0 by rw [b1]; exact b3), if_neg (by decide), s18, e_bI, b1]
theorem s_137s {N : Nat} (ok : v_Ok) (hmb : u_mb m) (hw : c_Ws m) (h : u_Ct m f N) (hn : n ≤ N) (hx : u_bt f n 41 0 0 u_g0 = .inr g) : ∃ m', y_V sp true (d + 8) 137 [y_bo 10 0 0, y_bi (n : Int)] m = y_rI (n_pop (c_wh (g 0) (g 1) (g 4)) : Nat) m' ∧ u_FA 0 0 (y_mx m) (y_mc m) (u_ck (y_mx m)) m m' ∧ y_mI m' 1 1 = 0 ∧ y_mI m' 0 12 = -1 ∧ y_mI m' 0 11 = 0 ∧ y_mI m' 22 3 = 0 ∧ y_mI m' 25 1 = 0 ∧ y_mI m' 25 2 = 0 ∧ u_C m' (g 0) (g 1) (g 2) (g 3) (g 4) (g 5) (g 6) [] := by
  obtain ⟨p', g', e', q', m1, v5, a1, a2, a3, a4, a5, a6, a7, a8⟩ := l_137a (sp := sp) (d := d) hmb h hn
  rw [hx] at a8
  obtain ⟨b1, b2, b3⟩ := a8
  rw [b1] at a7
  have gr := a7.1
  have gr' := gr
  unfold u_gr at gr'
  have ec : y_mc m1 = y_mc m := a3.2.2.1
  have ex : y_mx m1 = y_mx m := a3.2.2.2.1
  have hb : y_mx m = 29 ∨ y_mx m = 30 := by unfold u_mb at hmb; omega
  have hbc : y_mc m = 29 ∨ y_mc m = 30 := by unfold u_mb at hmb; omega
  have hne : y_mx m ≠ y_mc m := by unfold u_mb at hmb; omega
  rw [a2, b2, if_pos (by decide)] at a1
  have F0 : u_FA 0 0 (y_mx m) (y_mc m) (u_ck (y_mx m)) m (y_sB (y_sB m1 9 (y_mx m1)) 10 (y_mc m1)) := by
    refine ⟨a3.1, a3.2.1, ?_, ?_, fun a k r => q_F_I a3 a k (fun s => r (Or.inl s)), fun a k r => q_F_J a3 a k (fun s => r (Or.inl s))⟩
    · show (if (10 : Nat) = 9 then y_mc m1 else (if (9 : Nat) = 9 then y_mx m1 else y_mc m1)) = _
      rw [if_neg (by decide), if_pos rfl, ex]
    · show (if (10 : Nat) = 10 then y_mc m1 else (if (9 : Nat) = 10 then y_mx m1 else y_mx m1)) = _
      rw [if_pos rfl, ec]
  have eI : ∀ a k, y_mI (y_sB (y_sB m1 9 (y_mx m1)) 10 (y_mc m1)) a k = y_mI m1 a k := fun a k => rfl
  have hB1 : u_BF (y_sB (y_sB m1 9 (y_mx m1)) 10 (y_mc m1)) (y_mx m) g := ⟨gr, fun k hk => a7.2 k hk⟩
  have emc := F0.2.2.1
  have emx := F0.2.2.2.1
  have e11 : y_mI (y_sB (y_sB m1 9 (y_mx m1)) 10 (y_mc m1)) 1 1 = 0 := a4
  have e012 : y_mI (y_sB (y_sB m1 9 (y_mx m1)) 10 (y_mc m1)) 0 12 = -1 := by rw [eI, a5]; exact b3
  have hw0 : c_Ws m1 := c_Ws_F hw a3 (fun r => by unfold u_cb at r; omega) (fun k r => by unfold u_cb at r; omega)
  have hw1 : c_Ws (y_sB (y_sB m1 9 (y_mx m1)) 10 (y_mc m1)) := hw0
  have st : y_V sp true (d + 8) 137 [y_bo 10 0 0, y_bi (n : Int)] m = _ := a1.trans (y_E_137_83 _ _ _)
  rw [st]
  generalize y_sB (y_sB m1 9 (y_mx m1)) 10 (y_mc m1) = M at *
  rw [emc, hB1.2 2 (by decide), hB1.2 3 (by decide)]
  obtain ⟨m2, c1, c2, c3, c4⟩ := s_49 (sp := sp) (ph := true) (d := d + 4) (A := g 2) (B := g 3) (m := M) (by omega) (by omega) (by omega)
  have s107 : y_V sp true (d + 7) 107 [y_bo 2 0 8] m2 = y_rV (y_sI (y_sI (y_sI m2 8 4 0) 8 5 0) 8 6 (-1)) := by rw [y_C_107, y_E_107_0]
  have s86 : ∀ m : y_m, y_V sp true (d + 7) 86 [y_bo 5 0 22] m = y_rV (y_sI (y_sI (y_sI (y_sI m 23 1 0) 25 1 0) 25 2 0) 22 3 0) := fun m => by
    have s62 := s_62 (sp := sp) (ph := true) (d := d + 5) (m := m) (a := 23)
    have s79 : ∀ m : y_m, y_V sp true (d + 6) 79 [y_bo 3 0 25] m = y_rV (y_sI (y_sI m 25 1 0) 25 2 0) := fun m => by rw [y_C_79, y_E_79_0]
    rw [y_C_86, y_E_86_0, s62, e_bV, s79, e_bV]
  rw [c1, e_bV, s107, e_bV, s86, e_bV]
  have G1 : q_F (u_ck (y_mx m)) M m2 := q_F_mono c2 (fun a k r => by unfold u_ck; omega)
  have G2 : q_F (fun a k => a = 8 ∧ 4 ≤ k ∧ k ≤ 6) m2 (y_sI (y_sI (y_sI m2 8 4 0) 8 5 0) 8 6 (-1)) := q_F_trans (q_F_sI (by omega)) (q_F_trans (q_F_sI (by omega)) (q_F_sI (by omega)))
  have k4 : y_mI (y_sI (y_sI (y_sI m2 8 4 0) 8 5 0) 8 6 (-1)) 8 4 = 0 := by rw [e_II' (by omega), e_II' (by omega), e_II]
  have k6 : y_mI (y_sI (y_sI (y_sI m2 8 4 0) 8 5 0) 8 6 (-1)) 8 6 = -1 := e_II
  generalize y_sI (y_sI (y_sI m2 8 4 0) 8 5 0) 8 6 (-1) = M2 at *
  have G3 : q_F (fun a k => (a = 23 ∧ k = 1) ∨ (a = 25 ∧ 1 ≤ k ∧ k ≤ 2) ∨ (a = 22 ∧ k = 3) ∨ (a = 0 ∧ k = 11)) M2 (y_sI (y_sI (y_sI (y_sI (y_sI M2 23 1 0) 25 1 0) 25 2 0) 22 3 0) 0 11 0) := q_F_trans (q_F_sI (by omega)) (q_F_trans (q_F_sI (by omega)) (q_F_trans (q_F_sI (by omega)) (q_F_trans (q_F_sI (by omega)) (q_F_sI (by omega)))))
  have k23 : y_mI (y_sI (y_sI (y_sI (y_sI (y_sI M2 23 1 0) 25 1 0) 25 2 0) 22 3 0) 0 11 0) 23 1 = 0 := by rw [e_II' (by omega), e_II' (by omega), e_II' (by omega), e_II' (by omega), e_II]
  have k251 : y_mI (y_sI (y_sI (y_sI (y_sI (y_sI M2 23 1 0) 25 1 0) 25 2 0) 22 3 0) 0 11 0) 25 1 = 0 := by rw [e_II' (by omega), e_II' (by omega), e_II' (by omega), e_II]
  have k252 : y_mI (y_sI (y_sI (y_sI (y_sI (y_sI M2 23 1 0) 25 1 0) 25 2 0) 22 3 0) 0 11 0) 25 2 = 0 := by rw [e_II' (by omega), e_II' (by omega), e_II]
  have k22 : y_mI (y_sI (y_sI (y_sI (y_sI (y_sI M2 23 1 0) 25 1 0) 25 2 0) 22 3 0) 0 11 0) 22 3 = 0 := by rw [e_II' (by omega), e_II]
  have k011 : y_mI (y_sI (y_sI (y_sI (y_sI (y_sI M2 23 1 0) 25 1 0) 25 2 0) 22 3 0) 0 11 0) 0 11 = 0 := e_II
  generalize y_sI (y_sI (y_sI (y_sI (y_sI M2 23 1 0) 25 1 0) 25 2 0) 22 3 0) 0 11 0 = M3 at *
  have G4 : q_F (u_ck (y_mx m)) M M3 := q_F_trans G1 (q_F_trans (q_F_mono G2 (fun a k r => by unfold u_ck; omega)) (q_F_mono G3 (fun a k r => by unfold u_ck; omega)))
  have G5 : q_F (fun a k => a = 8 ∨ (22 ≤ a ∧ a ≤ 25) ∨ (a = 0 ∧ k = 11)) m2 M3 := q_F_trans (q_F_mono G2 (fun a k r => by omega)) (q_F_mono G3 (fun a k r => by omega))
  have G6 : q_F (fun a k => a = 3 ∨ a = 4 ∨ a = 5 ∨ a = 8 ∨ (22 ≤ a ∧ a ≤ 25) ∨ (a = 0 ∧ k = 11)) M M3 := q_F_trans (q_F_mono c2 (fun a k r => by omega)) (q_F_mono G5 (fun a k r => by omega))
  have e3c : y_mc M3 = y_mx m := G6.2.2.1.trans emc
  have eb : ∀ k, k < 7 → y_mI M3 (y_mc M3) k = (g k : Nat) := fun k hk => by rw [e3c, q_F_I G6 _ k (fun r => by omega)]; exact hB1.2 k hk
  have hBo : m_B (g 0) (g 1) (g 2) (g 3) := m_B_ok ok (by omega) (by omega) (by omega) (by omega) (by omega) (by omega)
  have s41 := s_41 (sp := sp) (ph := true) (d := d + 5) (m := M3) (a := y_mc M3) (eb 0 (by omega)) (eb 1 (by omega)) (eb 4 (by omega)) (by omega) (by omega) (by omega)
  have wb : c_wh (g 0) (g 1) (g 4) < 4096 := c_wh_lt (by omega) (by omega)
  have s1 := s_1 (sp := sp) (ph := true) (d := d + 6) (m := M3) wb
  have s1' : y_V sp true (d + 7) 1 [y_bi ((n_bd (2 ^ (g 0 + g 1) - 1) (g 4) : Nat) : Int)] M3 = y_rI (n_pop (c_wh (g 0) (g 1) (g 4)) : Nat) M3 := s1
  refine ⟨M3, by rw [s41, e_bI, s1', e_bI], u_FA_F F0 G4, ?_, ?_, k011, k22, k251, k252, ?_⟩
  · rw [q_F_I G6 1 1 (fun r => by omega)]; exact e11
  · rw [q_F_I G6 0 12 (fun r => by omega)]; exact e012
  refine ⟨⟨by rw [e3c]; exact hb, eb 0 (by omega), eb 1 (by omega), eb 2 (by omega), eb 3 (by omega), eb 4 (by omega), eb 5 (by omega), eb 6 (by omega), by omega, by omega, by omega, by omega, by omega, by omega, ⟨k23, by show 0 ≤ 12; omega, fun i hi => absurd hi (Nat.not_lt_zero i)⟩, fun h hh => absurd hh List.not_mem_nil, List.nodup_nil, Or.inl rfl⟩, c_Ws_F hw1 G6 (fun r => by omega) (fun k r => by omega), ⟨hBo, by omega, eb 0 (by omega), eb 1 (by omega), eb 5 (by omega), ?_, fun i hi => ?_, by rw [e3c]; exact hb⟩, Or.inl ?_, Or.inl ?_⟩
  · rw [q_F_I G5 3 2 (fun r => by omega)]; exact c3
  · rw [q_F_J G5 4 i (fun r => by omega), q_F_J G5 5 i (fun r => by omega)]
    exact m_ms_ok hBo hi (c4 i hi)
  · rw [q_F_I G3 8 6 (fun r => by omega)]; exact k6
  · rw [q_F_I G3 8 4 (fun r => by omega)]; exact k4
end Boot
