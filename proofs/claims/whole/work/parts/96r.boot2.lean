/-! ===== boot, to the reference and to the class ===== -/
def u_b3 (a k : Nat) : Prop := a = 300000 ∨ (a = 49 ∧ k ≤ 16) ∨ a = 51 ∨ a = 52 ∨ q_wr a
/-- what a boot answers: the holes that are whole, or its fault -/
def u_ba (r : (Int × Int) ⊕ (Nat → Nat)) : Int := match r with
  | .inl x => x.1 - 10
  | .inr g => (n_pop (c_wh (g 0) (g 1) (g 4)) : Nat)
def u_bp (r : (Int × Int) ⊕ (Nat → Nat)) : Int := match r with
  | .inl x => x.2
  | .inr _ => -1
section Boot
variable {sp : Nat → Nat} {ph : Bool} {d : Nat} {m : y_m} {f : Nat → Int} {n p cnt : Nat} {e q : Int} {g : Nat → Nat}
theorem u_cl_40 {g : Nat → Nat} {x : Nat × (Nat → Nat)} (h : u_cl f n p 40 g = .inr x) : False := by
  unfold u_cl at h
  split at h
  · cases h
  · rw [if_pos (by omega)] at h; cases h
theorem l_193 : ∀ (k cnt p : Nat) (g : Nat → Nat) (m : y_m), cnt + (k + 1) = 41 → p ≤ n → u_RP m f n (u_sc u_bl f n p) 0 q cnt → u_RB m g → ∃ p' g' e' q' cnt' m', y_R sp ph (d + 5) 193 41 [some (y_bo 11 0 49), none] [] m = y_R sp ph (d + 5) 193 70 [some (y_bo 11 0 49), none] [] m' ∧ q_F u_rc m m' ∧ u_RP m' f n p' e' q' cnt' ∧ (e' = 0 → u_RB m' g') ∧ u_bx (u_bt f n (k + 1) p cnt g) g' e' q' q := by
  intro k
  induction k with
  | zero =>
    intro cnt p g m hc hp h hG
    have hn := h.1.1
    have hb := (u_sc_b (P := u_bl) (f := f) hp)
    have idm : u_sc u_bl f n (u_sc u_bl f n p) = u_sc u_bl f n p := u_sc_no (u_sc_end rfl hp)
    rw [y_E_193_41, h.2.2.2.2.1, if_neg (by decide), h.2.2.1, h.2.2.2.1, u_bt]
    by_cases c : n ≤ u_sc u_bl f n p
    · rw [if_pos (by rw [z_w_id (by omega) (by omega), z_w_id (by omega) (by omega)]; omega), if_pos c]
      exact ⟨_, g, 0, q, cnt, m, rfl, q_F_refl, h, fun _ => hG, rfl, rfl, rfl⟩
    · obtain ⟨p2, g2, e2, q2, cnt2, m2, b1, b2, b3, b4, b5, b6⟩ := t_192 (sp := sp) (ph := ph) (d := d) (cnt := cnt) (by omega) h hG
      obtain ⟨m3, c1, c2, c3⟩ := t_183 (sp := sp) (ph := ph) (d := d + 3) b3
      rw [if_neg (by rw [z_w_id (by omega) (by omega), z_w_id (by omega) (by omega)]; omega), if_neg c, b1, e_bV, c1, e_bV]
      have x := b6.2 rfl
      cases hv : u_cl f n (u_sc u_bl f n p) cnt g with
      | inl r =>
        rw [hv] at x
        dsimp only at x ⊢
        have eb := b3.2.2.2.2.2.2.2
        have e2n : ¬ e2 = 0 := by rw [x.1]; exact x.2.2
        rw [y_E_193_41, c3.2.2.2.2.1, if_pos (by rw [z_w_id (by omega) (by omega)]; exact e2n)]
        exact ⟨_, g2, e2, q2, cnt2, m3, rfl, q_F_trans b2 (q_F_mono c2 u_rf_rc), c3, fun r => absurd r e2n, x⟩
      | inr r =>
        have : cnt = 40 := by omega
        subst this
        exact absurd hv (fun r => u_cl_40 r)
  | succ k ih =>
    intro cnt p g m hc hp h hG
    have hn := h.1.1
    have hb := (u_sc_b (P := u_bl) (f := f) hp)
    rw [y_E_193_41, h.2.2.2.2.1, if_neg (by decide), h.2.2.1, h.2.2.2.1, u_bt]
    by_cases c : n ≤ u_sc u_bl f n p
    · rw [if_pos (by rw [z_w_id (by omega) (by omega), z_w_id (by omega) (by omega)]; omega), if_pos c]
      exact ⟨_, g, 0, q, cnt, m, rfl, q_F_refl, h, fun _ => hG, rfl, rfl, rfl⟩
    · obtain ⟨p2, g2, e2, q2, cnt2, m2, b1, b2, b3, b4, b5, b6⟩ := t_192 (sp := sp) (ph := ph) (d := d) (cnt := cnt) (by omega) h hG
      obtain ⟨m3, c1, c2, c3⟩ := t_183 (sp := sp) (ph := ph) (d := d + 3) b3
      rw [if_neg (by rw [z_w_id (by omega) (by omega), z_w_id (by omega) (by omega)]; omega), if_neg c, b1, e_bV, c1, e_bV]
      have x := b6.2 rfl
      cases hv : u_cl f n (u_sc u_bl f n p) cnt g with
      | inl r =>
        rw [hv] at x
        dsimp only at x ⊢
        have eb := b3.2.2.2.2.2.2.2
        have e2n : ¬ e2 = 0 := by rw [x.1]; exact x.2.2
        rw [y_E_193_41, c3.2.2.2.2.1, if_pos (by rw [z_w_id (by omega) (by omega)]; exact e2n)]
        exact ⟨_, g2, e2, q2, cnt2, m3, rfl, q_F_trans b2 (q_F_mono c2 u_rf_rc), c3, fun r => absurd r e2n, x⟩
      | inr r =>
        rw [hv] at x
        dsimp only at x ⊢
        obtain ⟨x1, x2, x3, x4⟩ := x
        have p2n := b3.2.1
        rw [x1] at p2n
        rw [x1, x3, x4, (b5 x3).1] at c3
        have hG3 := u_RB_F (b5 x3).2 c2 u_rf_51
        rw [x2] at hG3
        obtain ⟨p4, g4, e4, q4, cnt4, m4, d1, d2, d3, d4, d5⟩ := ih (cnt + 1) r.1 r.2 m3 (by omega) p2n c3 hG3
        exact ⟨p4, g4, e4, q4, cnt4, m4, d1, q_F_trans b2 (q_F_trans (q_F_mono c2 u_rf_rc) d2), d3, d4, d5⟩
theorem u_rc_b3 : ∀ a k, u_rc a k → u_b3 a k := fun a k r => by unfold u_rc at r; unfold u_b3; omega
/-- the argument of boot is one that may stand there -/
theorem t_193n {N : Nat} {x : Int} (h : u_Rt m f N) (h0 : -2147483648 ≤ x) (h1 : x < 2147483648) (hx : ¬ (0 ≤ x ∧ x ≤ N)) : y_V sp ph (d + 6) 193 [y_bo 11 0 49, y_bi x] m = y_rI 0 (y_sI (y_sI m 49 0 0) 49 0 1) := by
  have hN := h.2.1
  have e1 : y_mI (y_sI m 49 0 0) 49 1 = N := by rw [e_II' (by omega)]; exact h.1
  have e0 : y_mI (y_sI m 49 0 0) 49 0 = 0 := e_II
  have t180 := t_180 (sp := sp) (ph := ph) (d := d + 4) (m := y_sI m 49 0 0) (v := x) (lo := 0) (hi := (N : Int)) h0 h1 (by omega) (by omega) (by omega) (by omega)
  have t179 := t_179b (sp := sp) (ph := ph) (d := d + 4) (m := y_sI m 49 0 0) e0 (x := 1) (by omega) (by omega)
  rw [y_C_193, y_E_193_0, e1, t180, e_bI, decide_eq_false hx, if_neg (by decide), y_E_193_23, t179, e_bI, if_neg (by decide)]
def u_b4 (a k : Nat) : Prop := a = 300000 ∨ (a = 49 ∧ k ≤ 7) ∨ a = 51
theorem u_b4_b3 : ∀ a k, u_b4 a k → u_b3 a k := fun a k r => by unfold u_b4 at r; unfold u_b3; omega
theorem l_193a {N : Nat} (h : u_Rt m f N) (hn : n ≤ N) : ∃ p' g' e' q' cnt' m', y_V sp true (d + 6) 193 [y_bo 11 0 49, y_bi (n : Int)] m = y_R sp true (d + 5) 193 70 [some (y_bo 11 0 49), none] [] m' ∧ u_FA 1 7 (y_mc m) (y_mx m) u_b4 m m' ∧ y_mI m' 49 0 = 0 ∧ y_mI m' 49 1 = 0 ∧ u_RP m' f n p' e' q' cnt' ∧ (e' = 0 → u_RB m' g') ∧ u_bx (u_bt f n 41 0 0 u_g0) g' e' q' (-1) := by
  have hN := h.2.1
  have e1 : y_mI (y_sI m 49 0 0) 49 1 = N := by rw [e_II' (by omega)]; exact h.1
  have e0 : y_mI (y_sI m 49 0 0) 49 0 = 0 := e_II
  have F0 : q_F u_b4 m (y_sI m 49 0 0) := q_F_sI (by unfold u_b4; omega)
  have h' : u_Rt (y_sI m 49 0 0) f N := ⟨e1, hN, fun i hi => by rw [e_II' (by omega)]; exact h.2.2 i hi⟩
  have t180 := t_180 (sp := sp) (ph := true) (d := d + 4) (m := y_sI m 49 0 0) (v := (n : Int)) (lo := 0) (hi := (N : Int)) (by omega) (by omega) (by omega) (by omega) (by omega) (by omega)
  have t179 := t_179a (sp := sp) (ph := true) (d := d + 4) (m := y_sI m 49 0 0) e0 (x := 1)
  obtain ⟨m1, a1, a2, a3, a4⟩ := t_191 (sp := sp) (ph := true) (d := d + 2) h' hn
  obtain ⟨m2, b1, b2, b3⟩ := t_177 (sp := sp) (d := d + 4) (m := m1)
  have F2 : u_FA 1 7 (y_mc m) (y_mx m) u_b4 m m2 := by
    have F1 : q_F u_b4 m m1 := q_F_trans F0 (q_F_mono a2 (fun a k r => by unfold u_sq at r; unfold u_b4; omega))
    have := u_F_FA F1 (u_FA_mono b2 (T := u_b4) (fun a k r => by unfold u_n7 at r; unfold u_b4; omega))
    rw [F1.2.2.1, F1.2.2.2.1] at this
    exact this
  have e2 : ∀ a k, a ≠ 300000 → a ≠ 51 → y_mI m2 a k = y_mI m1 a k := fun a k r1 r2 => b2.2.2.2.2.1 a k (fun r => by unfold u_n7 at r; omega)
  have hP : u_RP m2 f n (u_sc u_bl f n 0) 0 (-1) 0 := by
    obtain ⟨g1, g2, g3, g4, g5, g6, g7, g8, g9, g10⟩ := a3
    exact ⟨g1, g2, by rw [e2 _ _ (by omega) (by omega)]; exact g3, by rw [e2 _ _ (by omega) (by omega)]; exact g4, by rw [e2 _ _ (by omega) (by omega)]; exact g5, by rw [e2 _ _ (by omega) (by omega)]; exact g6, by rw [e2 _ _ (by omega) (by omega)]; exact g7, g8, g9, fun i hi => by rw [e2 _ _ (by omega) (by omega)]; exact g10 i hi⟩
  obtain ⟨p', g', e', q', cnt', m3, c1, c2, c3, c4, c5⟩ := l_193 (sp := sp) (ph := true) (d := d) (q := -1) 40 0 0 u_g0 m2 (by omega) (Nat.zero_le _) hP b3
  refine ⟨p', g', e', q', cnt', m3, ?_, u_FA_F F2 (q_F_mono c2 (fun a k r => by unfold u_rc at r; unfold u_b4; omega)), ?_, ?_, c3, c4, c5⟩
  · rw [y_C_193, y_E_193_0, e1, t180, e_bI, decide_eq_true (show (0 : Int) ≤ (n : Int) ∧ (n : Int) ≤ (N : Int) by omega), if_pos (by decide), y_E_193_22, y_E_193_23, t179, e_bI, if_pos (by decide), y_E_193_32, a1, e_bV, b1, e_bV]
    exact c1
  · rw [q_F_I c2 49 0 (fun r => by unfold u_rc at r; omega), e2 _ _ (by omega) (by omega), q_F_I a2 49 0 (fun r => by unfold u_sq at r; omega)]; exact e0
  · rw [q_F_I c2 49 1 (fun r => by unfold u_rc at r; omega), e2 _ _ (by omega) (by omega)]; exact a4
theorem t_193e {N : Nat} {x : Int × Int} (h : u_Rt m f N) (hn : n ≤ N) (hx : u_bt f n 41 0 0 u_g0 = .inl x) : ∃ m' : y_m, y_V sp true (d + 6) 193 [y_bo 11 0 49, y_bi (n : Int)] m = y_rI (x.1 - 10) m' ∧ u_FA 1 7 (y_mc m) (y_mx m) u_b4 m m' ∧ y_mI m' 49 0 = 0 ∧ y_mI m' 49 1 = 0 ∧ y_mI m' 49 3 = x.2 := by
  obtain ⟨p', g', e', q', cnt', m3, a1, a2, a3, a4, a5, a6, a7⟩ := l_193a (sp := sp) (d := d) h hn
  rw [hx] at a7
  obtain ⟨b1, b2, b3⟩ := a7
  have eb := a5.2.2.2.2.2.2.2
  have ee : y_mI (y_sI m3 49 3 (y_mI m3 49 6)) 49 5 = e' := by rw [e_II' (by omega)]; exact a5.2.2.2.2.1
  refine ⟨y_sI m3 49 3 (y_mI m3 49 6), ?_, u_FA_F a2 (q_F_sI (by unfold u_b4; omega)), ?_, ?_, ?_⟩
  · rw [a1, y_E_193_70, ee, if_neg (by rw [z_w_id (by omega) (by omega), b1]; exact b3), b1]
  · rw [e_II' (by omega)]; exact a3
  · rw [e_II' (by omega)]; exact a4
  · rw [e_II, a5.2.2.2.2.2.1]; exact b2
theorem t_193s {N : Nat} {g : Nat → Nat} (ok : v_Ok) (h : u_Rt m f N) (hn : n ≤ N) (hx : u_bt f n 41 0 0 u_g0 = .inr g) : u_gr g ∧ ∃ m' : y_m, y_V sp true (d + 6) 193 [y_bo 11 0 49, y_bi (n : Int)] m = y_rI (n_pop (c_wh (g 0) (g 1) (g 4)) : Nat) m' ∧ u_FA 1 7 (y_mc m) (y_mx m) u_b3 m m' ∧ y_mI m' 49 0 = 0 ∧ y_mI m' 49 1 = 0 ∧ y_mI m' 49 3 = -1 ∧ y_mI m' 49 14 = 0 ∧ y_mI m' 49 15 = 0 ∧ y_mI m' 49 16 = 0 ∧ u_R m' (g 0) (g 1) (g 2) (g 3) (g 4) (g 5) (g 6) [] := by
  obtain ⟨p', g', e', q', cnt', m3, a1, a2, a3, a4, a5, a6, a7⟩ := l_193a (sp := sp) (d := d) h hn
  rw [hx] at a7
  obtain ⟨b1, b2, b3⟩ := a7
  rw [b1] at a6
  have hG := u_RB_F (a6 b2) (q_F_sI (S := fun a _ => a = 49) (m := m3) (a := 49) (k := 3) (x := y_mI m3 49 6) rfl) (fun a k r => by omega)
  have ee : y_mI (y_sI m3 49 3 (y_mI m3 49 6)) 49 5 = e' := by rw [e_II' (by omega)]; exact a5.2.2.2.2.1
  have e3 : y_mI (y_sI m3 49 3 (y_mI m3 49 6)) 49 3 = -1 := by rw [e_II, a5.2.2.2.2.2.1]; exact b3
  have e0 : y_mI (y_sI m3 49 3 (y_mI m3 49 6)) 49 0 = 0 := by rw [e_II' (by omega)]; exact a3
  have e1 : y_mI (y_sI m3 49 3 (y_mI m3 49 6)) 49 1 = 0 := by rw [e_II' (by omega)]; exact a4
  have st : y_V sp true (d + 6) 193 [y_bo 11 0 49, y_bi (n : Int)] m = y_R sp true (d + 5) 193 93 [some (y_bo 11 0 49), none] [] (y_sI m3 49 3 (y_mI m3 49 6)) := by
    rw [a1, y_E_193_70, ee, if_pos (by rw [b2]; decide)]
  have F := u_FA_F a2 (q_F_sI (S := u_b4) (m := m3) (a := 49) (k := 3) (x := y_mI m3 49 6) (by unfold u_b4; omega))
  generalize y_sI m3 49 3 (y_mI m3 49 6) = M at *
  obtain ⟨gr, h0, h1, h2, h3, h4, h5, h6⟩ := hG
  refine ⟨gr, ?_⟩
  have gr' := gr
  unfold u_gr at gr'
  obtain ⟨m4, c1, c2, c3, c4, c5, c6, c7, c8⟩ := t_194 (sp := sp) (ph := true) (d := d + 1) (A := g 2) (B := g 3) (m := M) (by omega) (by omega) (by omega) h2 h3
  have t0 : y_mI m4 52 0 = (g 0 : Nat) := by rw [c3 0 (by omega)]; exact h0
  have t1 : y_mI m4 52 1 = (g 1 : Nat) := by rw [c3 1 (by omega)]; exact h1
  have t6 : y_mI m4 52 6 = (g 4 : Nat) := by rw [c3 6 (by omega)]; exact h6
  have t200 := t_200 (sp := sp) (ph := true) (d := d + 3) (m := m4) t0 t1 t6 (by omega) (by omega) (by omega)
  have wb : c_wh (g 0) (g 1) (g 4) < 4096 := c_wh_lt (by omega) (by omega)
  have t201 := t_201 (sp := sp) (ph := true) (d := d + 4) (m := m4) wb
  have e4 : ∀ k, k < 13 → y_mI m4 49 k = y_mI M 49 k := fun k hk => q_F_I c2 49 k (fun r => by unfold q_wr at r; omega)
  refine ⟨m4, ?_, u_FA_F (u_FA_mono F u_b4_b3) (q_F_mono c2 (fun a k r => r.elim (fun r => Or.inr (Or.inr (Or.inr (Or.inl r)))) (fun r => r.elim (fun r => Or.inr (Or.inr (Or.inr (Or.inr r)))) (fun r => Or.inr (Or.inl ⟨r.1, r.2.2⟩))))), by rw [e4 0 (by omega)]; exact e0, by rw [e4 1 (by omega)]; exact e1, by rw [e4 3 (by omega)]; exact e3, c5, c6, c7, ⟨t0, t1, by rw [c3 2 (by omega)]; exact h2, by rw [c3 3 (by omega)]; exact h3, by rw [c3 4 (by omega)]; exact h4, t6, by omega, by omega, ⟨by omega, by omega, by omega, by rw [c3 2 (by omega)]; exact h2, c8⟩, m_B_ok ok (by omega) (by omega) (by omega) (by omega) (by omega) (by omega)⟩, by rw [c3 5 (by omega)]; exact h5, by omega, c4, by show 0 ≤ 12; omega, fun i hi => absurd hi (Nat.not_lt_zero i)⟩
  rw [st, y_E_193_93, c1, e_bV, t200, e_bI]
  have t201' : y_V sp true (d + 5) 201 [y_bi ((n_bd (2 ^ (g 0 + g 1) - 1) (g 4) : Nat) : Int)] m4 = y_rI (n_pop (c_wh (g 0) (g 1) (g 4)) : Nat) m4 := t201
  rw [t201', e_bI]
end Boot
