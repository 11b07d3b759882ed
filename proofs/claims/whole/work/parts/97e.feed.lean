/-! ===== feed ===== -/
def u_by (x : Int) (r : Nat) : Int := z_iand (z_ishr x ((24 - 8 * r : Nat) : Int)) 255
def u_xs (x1 x2 x3 x4 x5 : Int) (j : Nat) : Int := match j with
  | 0 => x1
  | 1 => x2
  | 2 => x3
  | 3 => x4
  | _ => x5
def u_fe (f : Nat → Int) (N : Nat) (x1 x2 x3 x4 x5 : Int) (i : Nat) : Int := if i < N then f i else u_by (u_xs x1 x2 x3 x4 x5 ((i - N) / 4)) ((i - N) % 4)
section Feed
variable {sp : Nat → Nat} {ph : Bool} {d : Nat} {m m' : y_m} {f F : Nat → Int} {N c : Nat} {x x1 x2 x3 x4 x5 : Int}
theorem u_fe_at {r j : Nat} (hr : r < 4) : u_fe f N x1 x2 x3 x4 x5 (N + 4 * j + r) = u_by (u_xs x1 x2 x3 x4 x5 j) r := by
  unfold u_fe
  rw [if_neg (by omega), show (N + 4 * j + r - N) / 4 = j by omega, show (N + 4 * j + r - N) % 4 = r by omega]
theorem u_fe_b {i : Nat} (h : N ≤ i) : 0 ≤ u_fe f N x1 x2 x3 x4 x5 i ∧ u_fe f N x1 x2 x3 x4 x5 i < 256 := by
  unfold u_fe
  rw [if_neg (by omega)]
  exact n_byte_lt _
def u_fd (a k : Nat) : Prop := (a = 1 ∧ k = 1) ∨ a = 2
theorem l_13 {r : Nat} (hr : r < 4) (h1 : y_mI m 1 1 = (c : Int)) (hc : c < 400) (hF : ∀ i, i < c → y_mI m 2 i = F i) (hb : F c = u_by x r) : ∃ m', y_R sp ph (d + 1) 13 3 [some (y_bo 6 0 1), some (y_bi x), some (y_bi ((24 - 8 * r : Nat) : Int))] [] m = y_R sp ph (d + 1) 13 3 [some (y_bo 6 0 1), some (y_bi x), some (y_bi ((24 - 8 * r : Nat) + (-8) : Int))] [] m' ∧ q_F u_fd m m' ∧ y_mI m' 1 1 = ((c + 1 : Nat) : Int) ∧ ∀ i, i < c + 1 → y_mI m' 2 i = F i := by
  have s8 := s_8 (sp := sp) (ph := ph) (d := d) (n := 400) (a := 2) (x := (c : Int)) (v := z_iand (z_iushr x ((24 - 8 * r : Nat) : Int)) 255) (m := m) (by omega) (by omega) (by omega)
  rw [n_byte x (24 - 8 * r) (by omega), Int.toNat_natCast] at s8
  have s8' : y_V sp ph (d + 1) 8 [y_bo 100 400 2, y_bi (c : Int), y_bi (z_iand (z_iushr x ((24 - 8 * r : Nat) : Int)) 255)] m = y_rV (y_sI m 2 c (z_iand (z_ishr x ((24 - 8 * r : Nat) : Int)) 255)) := by
    rw [n_byte x (24 - 8 * r) (by omega)]; exact s8
  have e1 : y_mI (y_sI m 2 c (u_by x r)) 1 1 = c := by rw [e_II' (by omega)]; exact h1
  refine ⟨y_sI (y_sI m 2 c (u_by x r)) 1 1 ((c : Int) + 1), ?_, q_F_trans (q_F_sI (by unfold u_fd; omega)) (q_F_sI (by unfold u_fd; omega)), by rw [e_II]; omega, fun i hi => ?_⟩
  · rw [y_E_13_3, if_neg (by rw [z_w_id (by omega) (by omega)]; omega), h1, s8', e_bV]
    have e1' : y_mI (y_sI m 2 c (z_iand (z_ishr x ((24 - 8 * r : Nat) : Int)) 255)) 1 1 = c := e1
    rw [e1']; rfl
  · rw [e_II' (by omega)]
    by_cases q : i = c
    · subst q; rw [e_II]; exact hb.symm
    · rw [e_II' (by omega)]; exact hF i (by omega)
theorem s_13 (h1 : y_mI m 1 1 = (c : Int)) (hc : c + 4 ≤ 400) (hF : ∀ i, i < c → y_mI m 2 i = F i) (hb : ∀ r, r < 4 → F (c + r) = u_by x r) : ∃ m', y_V sp ph (d + 2) 13 [y_bo 6 0 1, y_bi x] m = y_rV m' ∧ q_F u_fd m m' ∧ y_mI m' 1 1 = ((c + 4 : Nat) : Int) ∧ ∀ i, i < c + 4 → y_mI m' 2 i = F i := by
  obtain ⟨m1, a1, a2, a3, a4⟩ := l_13 (sp := sp) (ph := ph) (d := d) (r := 0) (x := x) (by omega) h1 (by omega) hF (hb 0 (by omega))
  obtain ⟨m2, b1, b2, b3, b4⟩ := l_13 (sp := sp) (ph := ph) (d := d) (r := 1) (x := x) (by omega) a3 (by omega) a4 (hb 1 (by omega))
  obtain ⟨m3, c1, c2, c3, c4⟩ := l_13 (sp := sp) (ph := ph) (d := d) (r := 2) (x := x) (by omega) b3 (by omega) b4 (hb 2 (by omega))
  obtain ⟨m4, d1, d2, d3, d4⟩ := l_13 (sp := sp) (ph := ph) (d := d) (r := 3) (x := x) (by omega) c3 (by omega) c4 (hb 3 (by omega))
  refine ⟨m4, ?_, q_F_trans a2 (q_F_trans b2 (q_F_trans c2 d2)), d3, d4⟩
  rw [y_C_13, y_E_13_0]
  have a1' : y_R sp ph (d + 1) 13 3 [some (y_bo 6 0 1), some (y_bi x), some (y_bi 24)] [] m = y_R sp ph (d + 1) 13 3 [some (y_bo 6 0 1), some (y_bi x), some (y_bi ((24 - 8 * 1 : Nat) : Int))] [] m1 := a1
  have b1' : y_R sp ph (d + 1) 13 3 [some (y_bo 6 0 1), some (y_bi x), some (y_bi ((24 - 8 * 1 : Nat) : Int))] [] m1 = y_R sp ph (d + 1) 13 3 [some (y_bo 6 0 1), some (y_bi x), some (y_bi ((24 - 8 * 2 : Nat) : Int))] [] m2 := b1
  have c1' : y_R sp ph (d + 1) 13 3 [some (y_bo 6 0 1), some (y_bi x), some (y_bi ((24 - 8 * 2 : Nat) : Int))] [] m2 = y_R sp ph (d + 1) 13 3 [some (y_bo 6 0 1), some (y_bi x), some (y_bi ((24 - 8 * 3 : Nat) : Int))] [] m3 := c1
  have d1' : y_R sp ph (d + 1) 13 3 [some (y_bo 6 0 1), some (y_bi x), some (y_bi ((24 - 8 * 3 : Nat) : Int))] [] m3 = y_R sp ph (d + 1) 13 3 [some (y_bo 6 0 1), some (y_bi x), some (y_bi (-8))] [] m4 := d1
  rw [a1', b1', c1', d1', y_E_13_3, if_pos (by decide), y_E_13_41]
theorem s_136n (h : u_Ct m f N) (hN : 400 < N + 20) : y_V sp ph (d + 2) 136 [y_bo 10 0 0, y_bi x1, y_bi x2, y_bi x3, y_bi x4, y_bi x5] m = y_rI (-1) m := by
  have h4 := h.2.1
  have s12 : y_V sp ph (d + 1) 12 [y_bo 6 0 1] m = y_rI 0 m := by
    rw [y_C_12, y_E_12_0, h.1, if_pos (by rw [z_w_id (by omega) (by omega)]; omega), y_E_12_17, y_E_12_18, e_g (Or.inl rfl)]
  rw [y_C_136, y_E_136_0, s12, e_bI, if_neg (by decide)]
theorem s_136 (h : u_Ct m f N) (hN : N + 20 ≤ 400) : ∃ m', y_V sp ph (d + 3) 136 [y_bo 10 0 0, y_bi x1, y_bi x2, y_bi x3, y_bi x4, y_bi x5] m = y_rI ((N + 20 : Nat) : Int) m' ∧ q_F u_fd m m' ∧ u_Ct m' (u_fe f N x1 x2 x3 x4 x5) (N + 20) := by
  have h4 := h.2.1
  have s12 : y_V sp ph (d + 2) 12 [y_bo 6 0 1] m = y_rI 1 m := by
    rw [y_C_12, y_E_12_0, h.1, if_neg (by rw [z_w_id (by omega) (by omega)]; omega), y_E_12_18, e_g (Or.inr rfl)]
  have hF : ∀ i, i < N → y_mI m 2 i = u_fe f N x1 x2 x3 x4 x5 i := fun i hi => by
    unfold u_fe
    rw [if_pos hi]; exact (h.2.2 i hi).1
  obtain ⟨m1, a1, a2, a3, a4⟩ := s_13 (sp := sp) (ph := ph) (d := d) (F := u_fe f N x1 x2 x3 x4 x5) (x := x1) h.1 (by omega) hF (fun r hr => u_fe_at (j := 0) hr)
  obtain ⟨m2, b1, b2, b3, b4⟩ := s_13 (sp := sp) (ph := ph) (d := d) (F := u_fe f N x1 x2 x3 x4 x5) (x := x2) a3 (by omega) a4 (fun r hr => u_fe_at (j := 1) hr)
  obtain ⟨m3, c1, c2, c3, c4⟩ := s_13 (sp := sp) (ph := ph) (d := d) (F := u_fe f N x1 x2 x3 x4 x5) (x := x3) b3 (by omega) b4 (fun r hr => u_fe_at (j := 2) hr)
  obtain ⟨m4, d1, d2, d3, d4⟩ := s_13 (sp := sp) (ph := ph) (d := d) (F := u_fe f N x1 x2 x3 x4 x5) (x := x4) c3 (by omega) c4 (fun r hr => u_fe_at (j := 3) hr)
  obtain ⟨m5, e1, e2, e3, e4⟩ := s_13 (sp := sp) (ph := ph) (d := d) (F := u_fe f N x1 x2 x3 x4 x5) (x := x5) d3 (by omega) d4 (fun r hr => u_fe_at (j := 4) hr)
  have s14 : y_V sp ph (d + 2) 14 [y_bo 6 0 1] m5 = y_rI ((N + 4 + 4 + 4 + 4 + 4 : Nat) : Int) m5 := by rw [y_C_14, y_E_14_0, e3]
  refine ⟨m5, ?_, q_F_trans a2 (q_F_trans b2 (q_F_trans c2 (q_F_trans d2 e2))), e3, hN, fun i hi => ⟨e4 i (by omega), ?_⟩⟩
  · rw [y_C_136, y_E_136_0, s12, e_bI, if_pos (by decide), y_E_136_12, a1, e_bV, b1, e_bV, c1, e_bV, d1, e_bV, e1, e_bV, s14, e_bI]
  · by_cases q : i < N
    · have := (h.2.2 i q).2
      unfold u_fe
      rw [if_pos q]; exact this
    · exact u_fe_b (by omega)
theorem t_181n (h : u_Rt m f N) (hN : 400 < N + 20) : y_V sp ph (d + 1) 181 [y_bo 11 0 49, y_bi x1, y_bi x2, y_bi x3, y_bi x4, y_bi x5] m = y_rI (-1) (y_sI m 49 0 0) := by
  have h4 := h.2.1
  have e1 : y_mI (y_sI m 49 0 0) 49 1 = N := by rw [e_II' (by omega)]; exact h.1
  rw [y_C_181, y_E_181_0, e1, if_neg (by rw [z_w_id (by omega) (by omega)]; omega)]
def u_fr (a k : Nat) : Prop := (a = 49 ∧ k ≤ 1) ∨ a = 50
theorem l_181 (hN : N + 20 ≤ 400) : ∀ (k j : Nat) (m : y_m), j + k = 20 → y_mI m 49 1 = ((N + j : Nat) : Int) → (∀ i, i < N + j → y_mI m 50 i = u_fe f N x1 x2 x3 x4 x5 i) → ∃ m', y_R sp ph d 181 23 [some (y_bo 11 0 49), some (y_bi x1), some (y_bi x2), some (y_bi x3), some (y_bi x4), some (y_bi x5), some (y_bi (j : Int)), none] [] m = y_rI ((N + 20 : Nat) : Int) m' ∧ q_F (fun a k => (a = 49 ∧ k = 1) ∨ a = 50) m m' ∧ y_mI m' 49 1 = ((N + 20 : Nat) : Int) ∧ ∀ i, i < N + 20 → y_mI m' 50 i = u_fe f N x1 x2 x3 x4 x5 i := by
  intro k
  induction k with
  | zero =>
    intro j m hj h1 h2
    have : j = 20 := by omega
    subst this
    refine ⟨m, ?_, q_F_refl, h1, h2⟩
    rw [y_E_181_23, if_pos (by decide), y_E_181_120, h1]
  | succ k ih =>
    intro j m hj h1 h2
    have zj : z_w (j : Int) = (j : Int) := z_w_id (by omega) (by omega)
    have go : ∀ xs0 : Int, xs0 = u_xs x1 x2 x3 x4 x5 (j / 4) → ∃ m', y_R sp ph d 181 76 [some (y_bo 11 0 49), some (y_bi x1), some (y_bi x2), some (y_bi x3), some (y_bi x4), some (y_bi x5), some (y_bi (j : Int)), none] [y_bi xs0] m = y_rI ((N + 20 : Nat) : Int) m' ∧ q_F (fun a k => (a = 49 ∧ k = 1) ∨ a = 50) m m' ∧ y_mI m' 49 1 = ((N + 20 : Nat) : Int) ∧ ∀ i, i < N + 20 → y_mI m' 50 i = u_fe f N x1 x2 x3 x4 x5 i := by
      intro xs0 hx
      have eb : z_iand (z_ishr xs0 (24 - 8 * z_irem (j : Int) 4)) 255 = u_fe f N x1 x2 x3 x4 x5 (N + j) := by
        rw [n_irem (by omega) (by omega) (by omega) (by omega), show (24 : Int) - 8 * ((j : Int) % 4) = ((24 - 8 * (j % 4) : Nat) : Int) by omega]
        have := u_fe_at (f := f) (N := N) (x1 := x1) (x2 := x2) (x3 := x3) (x4 := x4) (x5 := x5) (j := j / 4) (r := j % 4) (by omega)
        rw [show N + 4 * (j / 4) + j % 4 = N + j by omega] at this
        rw [this, hx]; rfl
      have e1 : y_mI (y_sI m 50 (N + j) (u_fe f N x1 x2 x3 x4 x5 (N + j))) 49 1 = ((N + j : Nat) : Int) := by rw [e_II' (by omega)]; exact h1
      obtain ⟨m2, a1, a2, a3, a4⟩ := ih (j + 1) (y_sI (y_sI m 50 (N + j) (u_fe f N x1 x2 x3 x4 x5 (N + j))) 49 1 (((N + j : Nat) : Int) + 1)) (by omega) (by rw [e_II]; omega) (fun i hi => by
        rw [e_II' (by omega)]
        by_cases q : i = N + j
        · subst q; rw [e_II]
        · rw [e_II' (by omega)]; exact h2 i (by omega))
      refine ⟨m2, ?_, q_F_trans (q_F_sI (by omega)) (q_F_trans (q_F_sI (by omega)) a2), a3, a4⟩
      rw [y_E_181_76, h1, e_g ⟨by omega, by omega⟩, Int.toNat_natCast, eb, e1, show (j : Int) + 1 = ((j + 1 : Nat) : Int) by omega]
      exact a1
    rw [y_E_181_23, zj, if_neg (by omega)]
    by_cases c1 : j < 4
    · rw [if_neg (by omega)]
      exact go _ (by rw [show j / 4 = 0 by omega]; rfl)
    rw [if_pos (by omega), y_E_181_40, zj]
    by_cases c2 : j < 8
    · rw [if_neg (by omega)]
      exact go _ (by rw [show j / 4 = 1 by omega]; rfl)
    rw [if_pos (by omega), y_E_181_51, zj]
    by_cases c3 : j < 12
    · rw [if_neg (by omega)]
      exact go _ (by rw [show j / 4 = 2 by omega]; rfl)
    rw [if_pos (by omega), y_E_181_62, zj]
    by_cases c4 : j < 16
    · rw [if_neg (by omega)]
      exact go _ (by rw [show j / 4 = 3 by omega]; rfl)
    rw [if_pos (by omega), y_E_181_74]
    exact go _ (by rw [show j / 4 = 4 by omega]; rfl)
theorem t_181 (h : u_Rt m f N) (hN : N + 20 ≤ 400) : ∃ m', y_V sp ph (d + 1) 181 [y_bo 11 0 49, y_bi x1, y_bi x2, y_bi x3, y_bi x4, y_bi x5] m = y_rI ((N + 20 : Nat) : Int) m' ∧ q_F u_fr m m' ∧ y_mI m' 49 0 = 0 ∧ u_Rt m' (u_fe f N x1 x2 x3 x4 x5) (N + 20) := by
  have e1 : y_mI (y_sI m 49 0 0) 49 1 = N := by rw [e_II' (by omega)]; exact h.1
  obtain ⟨m2, a1, a2, a3, a4⟩ := l_181 (sp := sp) (ph := ph) (d := d) (f := f) (x1 := x1) (x2 := x2) (x3 := x3) (x4 := x4) (x5 := x5) hN 20 0 (y_sI m 49 0 0) rfl e1 (fun i hi => by
    unfold u_fe
    rw [if_pos (by omega), e_II' (by omega)]; exact (h.2.2 i (by omega)).1)
  refine ⟨m2, ?_, q_F_trans (q_F_sI (by unfold u_fr; omega)) (q_F_mono a2 (fun a k r => by unfold u_fr; omega)), by rw [q_F_I a2 49 0 (by omega), e_II], a3, hN, fun i hi => ⟨a4 i hi, ?_⟩⟩
  · have a1' : y_R sp ph d 181 23 [some (y_bo 11 0 49), some (y_bi x1), some (y_bi x2), some (y_bi x3), some (y_bi x4), some (y_bi x5), some (y_bi 0), none] [] (y_sI m 49 0 0) = _ := a1
    rw [y_C_181, y_E_181_0, e1, if_pos (by rw [z_w_id (by omega) (by omega)]; omega), y_E_181_20, a1']
  · by_cases q : i < N
    · have := (h.2.2 i q).2
      unfold u_fe
      rw [if_pos q]; exact this
    · exact u_fe_b (by omega)
end Feed
