/-! ===== the class's finder: what spans cost ===== -/
def m_kd (lw L a b : Nat) : Bool := if lw = 0 then false else r_x L a b
theorem m_kd_comm (lw L a b : Nat) : m_kd lw L a b = m_kd lw L b a := by unfold m_kd; rw [r_x_comm]
theorem w_f_e {pull : Bool} {L A B x y : Nat} : w_f pull L A B (w_e x y) = if pull then r_pul (w_pu A B) L x y else r_len (w_ln A B) L B x y := by
  unfold w_f w_e
  by_cases h : x < y
  · rw [if_pos h]
  · rw [if_neg h]
    unfold r_pul r_len
    rw [r_x_comm L x y, r_gap_comm L x y]
/-- what the finder needs of boot and roots -/
def m_Q (m : y_m) (b L R A B lw : Nat) : Prop := m_B L R A B ∧ lw ≤ 2 ∧ y_mI m b 0 = L ∧ y_mI m b 1 = R ∧ y_mI m b 5 = lw ∧ y_mI m 3 2 = B ∧ (∀ g, g < 6 → y_mJ m 4 g = w_ln A B g ∧ y_mJ m 5 g = w_pu A B g) ∧ (b = 29 ∨ b = 30)
theorem m_Q_F {P : Nat → Nat → Prop} {m m' : y_m} {b L R A B lw : Nat} (h : m_Q m b L R A B lw) (hF : q_F P m m') (hP : ∀ a k, P a k → a ≠ b ∧ a ≠ 3 ∧ a ≠ 4 ∧ a ≠ 5) : m_Q m' b L R A B lw := by
  obtain ⟨h1, h2, h3, h4, h5, h6, h7, h8⟩ := h
  refine ⟨h1, h2, ?_, ?_, ?_, ?_, fun g hg => ⟨?_, ?_⟩, h8⟩
  · rw [q_F_I hF b 0 (fun q => (hP _ _ q).1 rfl)]; exact h3
  · rw [q_F_I hF b 1 (fun q => (hP _ _ q).1 rfl)]; exact h4
  · rw [q_F_I hF b 5 (fun q => (hP _ _ q).1 rfl)]; exact h5
  · rw [q_F_I hF 3 2 (fun q => (hP _ _ q).2.1 rfl)]; exact h6
  · rw [q_F_J hF 4 g (fun q => (hP _ _ q).2.2.1 rfl)]; exact (h7 g hg).1
  · rw [q_F_J hF 5 g (fun q => (hP _ _ q).2.2.2 rfl)]; exact (h7 g hg).2
def m_ct (m : y_m) (what L R A B lw n : Nat) : Prop := ∀ a b, a < L + R → b < L + R → a * 12 + b < n → y_mJ m 11 (a * 12 + b) = m_w what L A B (w_e a b) ∧ y_mI m 12 (a * 12 + b) = n_b (m_kd lw L a b)
theorem m_ct_F {P : Nat → Nat → Prop} {m m' : y_m} {what L R A B lw n : Nat} (h : m_ct m what L R A B lw n) (hF : q_F P m m') (hP : ∀ a k, P a k → a ≠ 11 ∧ a ≠ 12) : m_ct m' what L R A B lw n := fun a b ha hb hn => ⟨by rw [q_F_J hF 11 _ (fun q => (hP _ _ q).1 rfl)]; exact (h a b ha hb hn).1, by rw [q_F_I hF 12 _ (fun q => (hP _ _ q).2 rfl)]; exact (h a b ha hb hn).2⟩
section Costs
variable {sp : Nat → Nat} {ph : Bool} {d : Nat} {m : y_m} {b L R A B lw what : Nat}
theorem r_len_Q (h : m_Q m b L R A B lw) {x y : Nat} (hx : x < L + R) (hy : y < L + R) : r_len (y_mJ m 4) L B x y = w_f false L A B (w_e x y) ∧ r_pul (y_mJ m 5) L x y = w_f true L A B (w_e x y) := by
  have g := h.2.2.2.2.2.2.1 _ (r_gap_lt h.1.1 h.1.2.1 hx hy)
  rw [w_f_e, w_f_e]
  unfold r_len r_pul
  rw [g.1, g.2]
  simp
theorem l_111c {i j : Nat} (h : m_Q m b L R A B lw) (hi : i < L + R) (hj : j < L + R) (hw : what ≤ 2) : y_R sp ph (d + 3) 111 15 [some (y_bo 2 0 8), some (y_bo 0 0 b), some (y_bo 4 0 3), some (y_bi (what : Int)), some (y_bi (i : Int)), some (y_bi (j : Int)), none, none] [] m = y_R sp ph (d + 3) 111 15 [some (y_bo 2 0 8), some (y_bo 0 0 b), some (y_bo 4 0 3), some (y_bi (what : Int)), some (y_bi (i : Int)), some (y_bi ((j + 1 : Nat) : Int)), none, none] [] (y_sI (y_sJ m 11 (i * 12 + j) (m_w what L A B (w_e i j))) 12 (i * 12 + j) (n_b (m_kd lw L i j))) := by
  have hl := r_len_Q h hi hj
  have h' := h
  obtain ⟨⟨b1, b2, b3, b4, b5, b6, b7, b8⟩, h2, h3, h4, h5, h6, h7, h8⟩ := h'
  have hx : (i : Int) * 12 + (j : Int) = ((i * 12 + j : Nat) : Int) := by omega
  have hj1 : (j : Int) + 1 = ((j + 1 : Nat) : Int) := by omega
  have s52 := s_52 (sp := sp) (ph := ph) (d := d) (m := m) (b := b) (L := L) (R := R) (B := B) h3 b1 b2 hi hj h6 b6
  have s53 := s_53 (sp := sp) (ph := ph) (d := d) (m := m) (b := b) (L := L) (R := R) h3 b1 b2 hi hj
  rw [hl.1] at s52
  rw [hl.2] at s53
  have tail : ∀ v : Int, y_R sp ph (d + 3) 111 78 [some (y_bo 2 0 8), some (y_bo 0 0 b), some (y_bo 4 0 3), some (y_bi (what : Int)), some (y_bi (i : Int)), some (y_bi (j : Int)), none, none] [y_bl v, y_bi (((i * 12 + j : Nat) : Int)), y_bo 101 144 11] m = y_R sp ph (d + 3) 111 15 [some (y_bo 2 0 8), some (y_bo 0 0 b), some (y_bo 4 0 3), some (y_bi (what : Int)), some (y_bi (i : Int)), some (y_bi ((j + 1 : Nat) : Int)), none, none] [] (y_sI (y_sJ m 11 (i * 12 + j) v) 12 (i * 12 + j) (n_b (m_kd lw L i j))) := by
    intro v
    have s10 := s_10 (sp := sp) (ph := ph) (d := d + 2) (m := m) (n := 144) (a := 11) (x := ((i * 12 + j : Nat) : Int)) (v := v) (by omega) (by omega) (by omega)
    have s8 := fun v2 => s_8 (sp := sp) (ph := ph) (d := d + 2) (m := y_sJ m 11 (i * 12 + j) v) (n := 144) (a := 12) (x := ((i * 12 + j : Nat) : Int)) (v := v2) (by omega) (by omega) (by omega)
    have s45 := s_45 (sp := sp) (ph := ph) (d := d + 1) (m := y_sJ m 11 (i * 12 + j) v) (a := b) (L := L) (x := i) (y := j) h3 b1 (by omega) (by omega)
    unfold m_kd
    rw [y_E_111_78]
    by_cases c : lw = 0
    · have e5 : y_mI (y_sJ m 11 (i * 12 + j) v) b 5 = 0 := by show y_mI m b 5 = 0; omega
      simp (disch := omega) only [s10, e_bV, Int.toNat_natCast, e5, z_w_id, if_neg, if_pos c, y_E_111_112, hx, s8, hj1, not_true_eq_false, reduceIte]
      rfl
    · have e5 : y_mI (y_sJ m 11 (i * 12 + j) v) b 5 = (lw : Int) := h5
      simp (disch := omega) only [s10, e_bV, Int.toNat_natCast, e5, z_w_id, if_pos, if_neg c, y_E_111_104, y_E_111_112, hx, s45, e_bI, s8, hj1, not_true_eq_false, reduceIte]
  rw [y_E_111_15]
  unfold m_w
  by_cases w2 : what = 2
  · rw [if_pos w2]
    simp (disch := omega) only [s_38, e_bI, h3, h4, z_w_id, if_neg, s53, e_bL, y_E_111_51, y_E_111_76, if_pos, hx, tail]
  · rw [if_neg w2]
    by_cases w1 : what = 1
    · rw [if_pos w1]
      simp (disch := omega) only [s_38, e_bI, h3, h4, z_w_id, if_neg, if_pos, y_E_111_42, s52, e_bL, y_E_111_51, hx, tail]
    · rw [if_neg w1]
      simp (disch := omega) only [s_38, e_bI, h3, h4, z_w_id, if_neg, if_pos, y_E_111_42, s52, e_bL, y_E_111_51, y_E_111_76, hx, tail]
theorem m_ct_put {i j : Nat} (h : m_ct m what L R A B lw (i * 12 + j)) (hj : j < 12) (h12 : L + R ≤ 12) : m_ct (y_sI (y_sJ m 11 (i * 12 + j) (m_w what L A B (w_e i j))) 12 (i * 12 + j) (n_b (m_kd lw L i j))) what L R A B lw (i * 12 + (j + 1)) := by
  intro x y hx hy hn
  by_cases q : x * 12 + y = i * 12 + j
  · have e1 : x = i := by omega
    have e2 : y = j := by omega
    subst e1; subst e2
    exact ⟨by rw [e_JI, e_JJ], by rw [e_II]⟩
  · obtain ⟨g1, g2⟩ := h x y hx hy (by omega)
    exact ⟨by rw [e_JI, e_JJ' (by omega)]; exact g1, by rw [e_II' (by omega), e_IJ]; exact g2⟩
theorem l_111b {i : Nat} (hi : i < L + R) (hw : what ≤ 2) : ∀ (n j : Nat) (m : y_m), j + n = L + R → m_Q m b L R A B lw → m_ct m what L R A B lw (i * 12 + j) → ∃ m', y_R sp ph (d + 3) 111 15 [some (y_bo 2 0 8), some (y_bo 0 0 b), some (y_bo 4 0 3), some (y_bi (what : Int)), some (y_bi (i : Int)), some (y_bi (j : Int)), none, none] [] m = y_R sp ph (d + 3) 111 121 [some (y_bo 2 0 8), some (y_bo 0 0 b), some (y_bo 4 0 3), some (y_bi (what : Int)), some (y_bi (i : Int)), none, none, none] [] m' ∧ q_F (fun a _ => a = 11 ∨ a = 12) m m' ∧ m_Q m' b L R A B lw ∧ m_ct m' what L R A B lw (i * 12 + (L + R)) := by
  intro n
  induction n with
  | zero =>
    intro j m hj h hc
    have := h.1.1
    have := h.1.2.1
    refine ⟨m, ?_, q_F_refl, h, by rw [show L + R = j by omega]; exact hc⟩
    rw [y_E_111_15]
    simp (disch := omega) only [s_38, e_bI, h.2.2.1, h.2.2.2.1, z_w_id, if_pos]
  | succ n ih =>
    intro j m hj h hc
    have := h.1.1
    have := h.1.2.1
    have hb := h.2.2.2.2.2.2.2
    have hF : q_F (fun a _ => a = 11 ∨ a = 12) m (y_sI (y_sJ m 11 (i * 12 + j) (m_w what L A B (w_e i j))) 12 (i * 12 + j) (n_b (m_kd lw L i j))) := q_F_trans (q_F_sJ (Or.inl rfl)) (q_F_sI (Or.inr rfl))
    obtain ⟨m1, a1, a2, a3, a4⟩ := ih (j + 1) _ (by omega) (m_Q_F h hF (fun a k q => by omega)) (m_ct_put hc (by omega) (by omega))
    refine ⟨m1, ?_, q_F_trans hF a2, a3, a4⟩
    rw [l_111c h hi (by omega) hw]
    exact a1
theorem l_111a (hw : what ≤ 2) : ∀ (n i : Nat) (m : y_m), i + n = L + R → m_Q m b L R A B lw → m_ct m what L R A B lw (i * 12) → ∃ m', y_R sp ph (d + 3) 111 3 [some (y_bo 2 0 8), some (y_bo 0 0 b), some (y_bo 4 0 3), some (y_bi (what : Int)), some (y_bi (i : Int)), none, none, none] [] m = y_rV m' ∧ q_F (fun a _ => a = 11 ∨ a = 12) m m' ∧ m_Q m' b L R A B lw ∧ m_ct m' what L R A B lw 144 := by
  intro n
  induction n with
  | zero =>
    intro i m hi h hc
    have := h.1.1
    have := h.1.2.1
    refine ⟨m, ?_, q_F_refl, h, fun x y hx hy hn => hc x y hx hy (by omega)⟩
    rw [y_E_111_3]
    simp (disch := omega) only [s_38, e_bI, h.2.2.1, h.2.2.2.1, z_w_id, if_pos, y_E_111_127]
  | succ n ih =>
    intro i m hi h hc
    have := h.1.1
    have := h.1.2.1
    obtain ⟨m1, a1, a2, a3, a4⟩ := l_111b (sp := sp) (ph := ph) (d := d) (show i < L + R by omega) hw (L + R) 0 m (by omega) h (by rw [Nat.add_zero]; exact hc)
    obtain ⟨m2, b1, b2, b3, b4⟩ := ih (i + 1) m1 (by omega) a3 (fun x y hx hy hn => a4 x y hx hy (by omega))
    refine ⟨m2, ?_, q_F_trans a2 b2, b3, b4⟩
    have a1' : y_R sp ph (d + 3) 111 15 [some (y_bo 2 0 8), some (y_bo 0 0 b), some (y_bo 4 0 3), some (y_bi (what : Int)), some (y_bi (i : Int)), some (y_bi 0), none, none] [] m = _ := a1
    rw [y_E_111_3]
    simp (disch := omega) only [s_38, e_bI, h.2.2.1, h.2.2.2.1, z_w_id, if_neg, a1', y_E_111_121]
    exact b1
theorem s_111 (h : m_Q m b L R A B lw) (hw : what ≤ 2) : ∃ m', y_V sp ph (d + 4) 111 [y_bo 2 0 8, y_bo 0 0 b, y_bo 4 0 3, y_bi (what : Int)] m = y_rV m' ∧ q_F (fun a _ => a = 11 ∨ a = 12) m m' ∧ m_Q m' b L R A B lw ∧ m_ct m' what L R A B lw 144 := by
  obtain ⟨m1, a1, a2, a3, a4⟩ := l_111a (sp := sp) (ph := ph) (d := d) hw (L + R) 0 m (by omega) h (fun x y hx hy hn => absurd hn (by omega))
  refine ⟨m1, ?_, a2, a3, a4⟩
  rw [y_C_111, y_E_111_0]
  exact a1
theorem s_112 {x y : Nat} (h : m_Q m b L R A B lw) (hc : m_ct m what L R A B lw 144) (hx : x < L + R) (hy : y < L + R) : y_V sp ph (d + 2) 112 [y_bo 2 0 8, y_bi (x : Int), y_bi (y : Int)] m = y_rL (m_w what L A B (w_e x y)) m := by
  have := h.1.1
  have := h.1.2.1
  have hxx : (x : Int) * 12 + (y : Int) = ((x * 12 + y : Nat) : Int) := by omega
  simp (disch := omega) only [y_C_112, y_E_112_0, hxx, s_9, e_bL, Int.toNat_natCast, (hc x y hx hy (by omega)).1]
theorem s_113 {x y : Nat} (h : m_Q m b L R A B lw) (hc : m_ct m what L R A B lw 144) (hx : x < L + R) (hy : y < L + R) : y_V sp ph (d + 2) 113 [y_bo 2 0 8, y_bi (x : Int), y_bi (y : Int)] m = y_rI (n_b (m_kd lw L x y)) m := by
  have := h.1.1
  have := h.1.2.1
  have hxx : (x : Int) * 12 + (y : Int) = ((x * 12 + y : Nat) : Int) := by omega
  simp (disch := omega) only [y_C_113, y_E_113_0, hxx, s_7, e_bI, Int.toNat_natCast, (hc x y hx hy (by omega)).2]
theorem s_114 {x y : Nat} : y_V sp ph (d + 1) 114 [y_bi (x : Int), y_bi (y : Int)] m = y_rI (((x * 12 + y) * 4 : Nat) : Int) m := by
  rw [y_C_114, y_E_114_0, show ((x : Int) * 12 + (y : Int)) * 4 = (((x * 12 + y) * 4 : Nat) : Int) by omega]
end Costs
