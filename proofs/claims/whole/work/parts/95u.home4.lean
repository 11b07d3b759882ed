section Home
variable {sp : Nat → Nat} {ph : Bool} {d : Nat} {m : y_m} {L R A B lw t S T U W hole last l c : Nat} {i f o h : Bool}
theorem m_HB_skip (hT : ∀ j, T.testBit j = true → W.testBit j = true) (hW4 : W < 4096) (hno : T.testBit last = true → last ≠ n_low T → ∀ E, ¬ m_c lw (r_x L) (n_low T) (n_pop T - 2) last (m_rs T last) i f E) (hH : m_HB m L R A B lw t W T (last * 4 + 2 * i.toNat + f.toNat)) : m_HB m L R A B lw t W T (last * 4 + 2 * i.toNat + f.toNat + 1) := by
  obtain ⟨hc, hI, hZ, hJ⟩ := hH
  refine ⟨hc, fun U hole hU hb hl o h => ?_, hZ, m_rf_congr hJ (fun E => ?_)⟩
  · have hU4 : U < 4096 := by have := m_sub_le hU; omega
    refine m_rf_congr (hI U hole hU hb hl o h) (fun E => (m_pp_same hU4 hb hl ?_).symm)
    by_cases q : (w_rm T (n_low T)).testBit last = true
    · rw [w_rm_bit, Bool.and_eq_true] at q
      exact Or.inr (Or.inr (Or.inr (Or.inr (Or.inr (hno q.1 (of_decide_eq_true q.2))))))
    · exact Or.inr (Or.inr (Or.inr (Or.inr (Or.inl q))))
  · rw [m_hp_succ]
    exact ⟨Or.inl, fun g => g.elim id (fun ⟨_, x1, x2, _, _, E', x3, _⟩ => absurd x3 (hno x1 x2 E'))⟩
theorem l_260i (hW : W = c_wh L R t) (hT : ∀ j, T.testBit j = true → W.testBit j = true) (hp2 : 2 ≤ n_pop T) (hlast : last < 12) (hH : m_HB m L R A B lw t W T (last * 4 + 2 * i.toNat + f.toNat)) : ∃ m', y_R sp ph (d + 7) 260 167 [some (y_bo 11 0 49), some (y_bi (W : Int)), some (y_bi ((L + R : Nat) : Int)), some (y_bi (T : Int)), some (y_bi (n_low T : Int)), some (y_bi (last : Int)), some (y_bi (2 * n_b i + n_b f))] [] m = y_R sp ph (d + 7) 260 167 [some (y_bo 11 0 49), some (y_bi (W : Int)), some (y_bi ((L + R : Nat) : Int)), some (y_bi (T : Int)), some (y_bi (n_low T : Int)), some (y_bi (last : Int)), some (y_bi (2 * n_b i + n_b f + 1))] [] m' ∧ q_F (m_Hp T) m m' ∧ m_HB m' L R A B lw t W T (last * 4 + 2 * i.toNat + f.toNat + 1) := by
  have hB := hH.1.2.2.2.2.2.2.2.2.2
  have hW4 : W < 4096 := by rw [hW]; exact c_wh_lt hB.1 hB.2.1
  have hT4 : T < 4096 := by have := m_sub_le hT; omega
  have hinT : ∀ j, T.testBit j = true → j < L + R := fun j hj => by have := hT j hj; rw [hW] at this; exact c_wh_in this
  have t258 := t_258 (sp := sp) (ph := ph) (d := d + 6) (m := m) (S := T) (hole := last) (i := i) (f := f)
  have ixl := m_ix_lt (i := i) (f := f) hT4 hlast
  have key : ∀ (w : Nat) (r : y_Rs), w < 196608 → y_g (0 ≤ (w : Int) ∧ (w : Int) < (196608 : Int)) r = r := fun w r h => e_g ⟨by omega, by omega⟩
  have n0 : n_b false = 0 := rfl
  have n1 : n_b true = 1 := rfl
  by_cases z : y_mJ m 99 (m_ix T last i f) = -1
  · have zz : z_w (z_lcmp (y_mJ m 99 (m_ix T last i f)) (-1)) = 0 := by rw [z]; decide
    refine ⟨m, ?_, q_F_refl, m_HB_skip hT hW4 (fun x1 x2 E g => ?_) hH⟩
    · generalize m_ix T last i f = ix at *
      rw [y_E_260_167]
      cases i <;> cases f <;> simp only [n0, n1] at t258 ⊢
      · simp (disch := omega) only [z_w_id, if_pos, if_neg, e_g, e_bI, e_bV, e_bL, e_II, e_II', e_IJ, e_JI, e_JJ, e_JJ', reduceIte, not_true_eq_false, not_false_eq_true, true_or, or_true, true_and, and_true, e_nb0, e_gT, y_E_260_190, y_E_260_191, y_E_260_203, y_E_260_204, n_irem]
        rw [t258, e_bI, key _ _ ixl, Int.toNat_natCast, if_pos zz, y_E_260_249]
      · simp (disch := omega) only [z_w_id, if_pos, if_neg, e_g, e_bI, e_bV, e_bL, e_II, e_II', e_IJ, e_JI, e_JJ, e_JJ', reduceIte, not_true_eq_false, not_false_eq_true, true_or, or_true, true_and, and_true, e_nb0, e_gT, y_E_260_190, y_E_260_191, y_E_260_203, y_E_260_204, n_irem]
        rw [t258, e_bI, key _ _ ixl, Int.toNat_natCast, if_pos zz, y_E_260_249]
      · simp (disch := omega) only [z_w_id, if_pos, if_neg, e_g, e_bI, e_bV, e_bL, e_II, e_II', e_IJ, e_JI, e_JJ, e_JJ', reduceIte, not_true_eq_false, not_false_eq_true, true_or, or_true, true_and, and_true, e_nb0, e_gT, y_E_260_190, y_E_260_191, y_E_260_203, y_E_260_204, n_irem]
        rw [t258, e_bI, key _ _ ixl, Int.toNat_natCast, if_pos zz, y_E_260_249]
      · simp (disch := omega) only [z_w_id, if_pos, if_neg, e_g, e_bI, e_bV, e_bL, e_II, e_II', e_IJ, e_JI, e_JJ, e_JJ', reduceIte, not_true_eq_false, not_false_eq_true, true_or, or_true, true_and, and_true, e_nb0, e_gT, y_E_260_190, y_E_260_191, y_E_260_203, y_E_260_204, n_irem]
        rw [t258, e_bI, key _ _ ixl, Int.toNat_natCast, if_pos zz, y_E_260_249]
    · have := (m_rf_F (hH.2.1 T last hT x1 x2 i f)).mp z E
      exact this (Or.inl ⟨m_lt_rm x1, g⟩)
  · have hval : T.testBit last = true ∧ last ≠ n_low T := by
      by_cases c : T.testBit last = true ∧ last ≠ n_low T
      · exact c
      · exact absurd (hH.2.2.1 T last i f hT4 hlast (fun q => c q.2)) z
    obtain ⟨m1, a1, a2, a3⟩ := t_261 (sp := sp) (ph := ph) (d := d) hW hT hval.1 hval.2 hp2 z hH
    have vb := m_rf_b hB (fun E g => m_pp_E hT4 hinT hval.1 hval.2 g) (hH.2.1 T last hT hval.1 hval.2 i f)
    have lc : (z_w (z_lcmp (y_mJ m 99 (m_ix T last i f)) (-1)) = 0) = (y_mJ m 99 (m_ix T last i f) = -1) := n_lc_eq (by omega) (by omega) (by omega) (by omega)
    have zz : ¬ z_w (z_lcmp (y_mJ m 99 (m_ix T last i f)) (-1)) = 0 := by rw [lc]; exact z
    refine ⟨m1, ?_, a2, a3⟩
    generalize m_ix T last i f = ix at *
    rw [y_E_260_167]
    cases i <;> cases f <;> simp only [n0, n1] at t258 a1 ⊢
    · simp (disch := omega) only [z_w_id, if_pos, if_neg, e_g, e_bI, e_bV, e_bL, e_II, e_II', e_IJ, e_JI, e_JJ, e_JJ', reduceIte, not_true_eq_false, not_false_eq_true, true_or, or_true, true_and, and_true, e_nb0, e_gT, y_E_260_190, y_E_260_191, y_E_260_203, y_E_260_204, n_irem]
      rw [t258, e_bI, key _ _ ixl, Int.toNat_natCast, if_neg zz]
      simp (disch := omega) only [z_w_id, if_pos, if_neg, e_g, e_bI, e_bV, e_bL, e_II, e_II', e_IJ, e_JI, e_JJ, e_JJ', reduceIte, not_true_eq_false, not_false_eq_true, true_or, or_true, true_and, and_true, e_nb0, e_gT, y_E_260_231, y_E_260_232, y_E_260_244, y_E_260_245, n_irem, a1, y_E_260_249]
    · simp (disch := omega) only [z_w_id, if_pos, if_neg, e_g, e_bI, e_bV, e_bL, e_II, e_II', e_IJ, e_JI, e_JJ, e_JJ', reduceIte, not_true_eq_false, not_false_eq_true, true_or, or_true, true_and, and_true, e_nb0, e_gT, y_E_260_190, y_E_260_191, y_E_260_203, y_E_260_204, n_irem]
      rw [t258, e_bI, key _ _ ixl, Int.toNat_natCast, if_neg zz]
      simp (disch := omega) only [z_w_id, if_pos, if_neg, e_g, e_bI, e_bV, e_bL, e_II, e_II', e_IJ, e_JI, e_JJ, e_JJ', reduceIte, not_true_eq_false, not_false_eq_true, true_or, or_true, true_and, and_true, e_nb0, e_gT, y_E_260_231, y_E_260_232, y_E_260_244, y_E_260_245, n_irem, a1, y_E_260_249]
    · simp (disch := omega) only [z_w_id, if_pos, if_neg, e_g, e_bI, e_bV, e_bL, e_II, e_II', e_IJ, e_JI, e_JJ, e_JJ', reduceIte, not_true_eq_false, not_false_eq_true, true_or, or_true, true_and, and_true, e_nb0, e_gT, y_E_260_190, y_E_260_191, y_E_260_203, y_E_260_204, n_irem]
      rw [t258, e_bI, key _ _ ixl, Int.toNat_natCast, if_neg zz]
      simp (disch := omega) only [z_w_id, if_pos, if_neg, e_g, e_bI, e_bV, e_bL, e_II, e_II', e_IJ, e_JI, e_JJ, e_JJ', reduceIte, not_true_eq_false, not_false_eq_true, true_or, or_true, true_and, and_true, e_nb0, e_gT, y_E_260_231, y_E_260_232, y_E_260_244, y_E_260_245, n_irem, a1, y_E_260_249]
    · simp (disch := omega) only [z_w_id, if_pos, if_neg, e_g, e_bI, e_bV, e_bL, e_II, e_II', e_IJ, e_JI, e_JJ, e_JJ', reduceIte, not_true_eq_false, not_false_eq_true, true_or, or_true, true_and, and_true, e_nb0, e_gT, y_E_260_190, y_E_260_191, y_E_260_203, y_E_260_204, n_irem]
      rw [t258, e_bI, key _ _ ixl, Int.toNat_natCast, if_neg zz]
      simp (disch := omega) only [z_w_id, if_pos, if_neg, e_g, e_bI, e_bV, e_bL, e_II, e_II', e_IJ, e_JI, e_JJ, e_JJ', reduceIte, not_true_eq_false, not_false_eq_true, true_or, or_true, true_and, and_true, e_nb0, e_gT, y_E_260_231, y_E_260_232, y_E_260_244, y_E_260_245, n_irem, a1, y_E_260_249]
theorem l_260h (hW : W = c_wh L R t) (hT : ∀ j, T.testBit j = true → W.testBit j = true) (hp2 : 2 ≤ n_pop T) (hlast : last < 12) (hH : m_HB m L R A B lw t W T (last * 4)) : ∃ m', y_R sp ph (d + 7) 260 167 [some (y_bo 11 0 49), some (y_bi (W : Int)), some (y_bi ((L + R : Nat) : Int)), some (y_bi (T : Int)), some (y_bi (n_low T : Int)), some (y_bi (last : Int)), some (y_bi 0)] [] m = y_R sp ph (d + 7) 260 158 [some (y_bo 11 0 49), some (y_bi (W : Int)), some (y_bi ((L + R : Nat) : Int)), some (y_bi (T : Int)), some (y_bi (n_low T : Int)), some (y_bi ((last + 1 : Nat) : Int)), none] [] m' ∧ q_F (m_Hp T) m m' ∧ m_HB m' L R A B lw t W T ((last + 1) * 4) := by
  obtain ⟨m1, a1, a2, a3⟩ := l_260i (sp := sp) (ph := ph) (d := d) (i := false) (f := false) hW hT hp2 hlast hH
  obtain ⟨m2, b1, b2, b3⟩ := l_260i (sp := sp) (ph := ph) (d := d) (i := false) (f := true) hW hT hp2 hlast a3
  obtain ⟨m3, c1, c2, c3⟩ := l_260i (sp := sp) (ph := ph) (d := d) (i := true) (f := false) hW hT hp2 hlast b3
  obtain ⟨m4, d1, d2, d3⟩ := l_260i (sp := sp) (ph := ph) (d := d) (i := true) (f := true) hW hT hp2 hlast c3
  have a1' : y_R sp ph (d + 7) 260 167 [some (y_bo 11 0 49), some (y_bi (W : Int)), some (y_bi ((L + R : Nat) : Int)), some (y_bi (T : Int)), some (y_bi (n_low T : Int)), some (y_bi (last : Int)), some (y_bi 0)] [] m = _ := a1
  have b1' : y_R sp ph (d + 7) 260 167 [some (y_bo 11 0 49), some (y_bi (W : Int)), some (y_bi ((L + R : Nat) : Int)), some (y_bi (T : Int)), some (y_bi (n_low T : Int)), some (y_bi (last : Int)), some (y_bi (2 * n_b false + n_b false + 1))] [] m1 = _ := b1
  have c1' : y_R sp ph (d + 7) 260 167 [some (y_bo 11 0 49), some (y_bi (W : Int)), some (y_bi ((L + R : Nat) : Int)), some (y_bi (T : Int)), some (y_bi (n_low T : Int)), some (y_bi (last : Int)), some (y_bi (2 * n_b false + n_b true + 1))] [] m2 = _ := c1
  have d1' : y_R sp ph (d + 7) 260 167 [some (y_bo 11 0 49), some (y_bi (W : Int)), some (y_bi ((L + R : Nat) : Int)), some (y_bi (T : Int)), some (y_bi (n_low T : Int)), some (y_bi (last : Int)), some (y_bi (2 * n_b true + n_b false + 1))] [] m3 = _ := d1
  refine ⟨m4, ?_, q_F_trans a2 (q_F_trans b2 (q_F_trans c2 d2)), ?_⟩
  · rw [a1', b1', c1', d1', y_E_260_167, if_pos (by decide), y_E_260_255]
    rw [show (last : Int) + 1 = ((last + 1 : Nat) : Int) by omega]
  · have e : (last + 1) * 4 = last * 4 + 2 * true.toNat + true.toNat + 1 := by show (last + 1) * 4 = last * 4 + 2 + 1 + 1; omega
    rw [e]; exact d3
theorem l_260g (hW : W = c_wh L R t) (hT : ∀ j, T.testBit j = true → W.testBit j = true) (hp2 : 2 ≤ n_pop T) : ∀ (n l : Nat) (m : y_m), l + n = L + R → m_HB m L R A B lw t W T (l * 4) → ∃ m', y_R sp ph (d + 7) 260 158 [some (y_bo 11 0 49), some (y_bi (W : Int)), some (y_bi ((L + R : Nat) : Int)), some (y_bi (T : Int)), some (y_bi (n_low T : Int)), some (y_bi (l : Int)), none] [] m = y_R sp ph (d + 7) 260 261 [some (y_bo 11 0 49), some (y_bi (W : Int)), some (y_bi ((L + R : Nat) : Int)), some (y_bi (T : Int)), none, none, none] [] m' ∧ q_F (m_Hp T) m m' ∧ m_HB m' L R A B lw t W T ((L + R) * 4) := by
  intro n
  induction n with
  | zero =>
    intro l m hn hH
    have hB := hH.1.2.2.2.2.2.2.2.2.2
    have := hB.1
    have := hB.2.1
    refine ⟨m, ?_, q_F_refl, by rw [show L + R = l by omega]; exact hH⟩
    rw [y_E_260_158, if_pos (by rw [z_w_id (by omega) (by omega), z_w_id (by omega) (by omega)]; omega)]
  | succ n ih =>
    intro l m hn hH
    have hB := hH.1.2.2.2.2.2.2.2.2.2
    have := hB.1
    have := hB.2.1
    obtain ⟨m1, a1, a2, a3⟩ := l_260h (sp := sp) (ph := ph) (d := d) hW hT hp2 (show l < 12 by omega) hH
    obtain ⟨m2, b1, b2, b3⟩ := ih (l + 1) m1 (by omega) a3
    refine ⟨m2, ?_, q_F_trans a2 b2, b3⟩
    rw [y_E_260_158, if_neg (by rw [z_w_id (by omega) (by omega), z_w_id (by omega) (by omega)]; omega), a1, b1]
/-- what stands between two sets -/
def m_P0 (m : y_m) (L A B lw W T : Nat) : Prop := ∀ U hole, (∀ j, U.testBit j = true → W.testBit j = true) → U.testBit hole = true → hole ≠ n_low U → ∀ o h, m_rf 0 L A B (y_mJ m 99 (m_ix U hole o h)) (fun E => w_rm U hole < T ∧ m_c lw (r_x L) (n_low U) (n_pop U - 2) hole (m_rs U hole) o h E)
/-- a set of one hole is pushed on -/
def m_P1 (m : y_m) (L A B lw W T l : Nat) : Prop := ∀ U hole, (∀ j, U.testBit j = true → W.testBit j = true) → U.testBit hole = true → hole ≠ n_low U → ∀ o h, m_rf 0 L A B (y_mJ m 99 (m_ix U hole o h)) (fun E => (w_rm U hole < T ∨ (w_rm U hole = T ∧ hole < l)) ∧ m_c lw (r_x L) (n_low U) (n_pop U - 2) hole (m_rs U hole) o h E)
theorem l_260s (hW : W = c_wh L R t) (hT : ∀ j, T.testBit j = true → W.testBit j = true) (hp1 : n_pop T = 1) : ∀ (n l : Nat) (m : y_m), l + n = L + R → n_low T < l → m_Ch m L R A B lw t → m_P1 m L A B lw W T l → m_PZ m W → ∃ m', y_R sp ph (d + 7) 260 89 [some (y_bo 11 0 49), some (y_bi (W : Int)), some (y_bi ((L + R : Nat) : Int)), some (y_bi (T : Int)), some (y_bi (n_low T : Int)), some (y_bi (l : Int)), none] [] m = y_R sp ph (d + 7) 260 261 [some (y_bo 11 0 49), some (y_bi (W : Int)), some (y_bi ((L + R : Nat) : Int)), some (y_bi (T : Int)), none, none, none] [] m' ∧ q_F (fun a _ => a = 99) m m' ∧ m_Ch m' L R A B lw t ∧ m_P1 m' L A B lw W T (L + R) ∧ m_PZ m' W := by
  intro n
  induction n with
  | zero =>
    intro l m hn hs hc hI hZ
    have hB := hc.2.2.2.2.2.2.2.2.2
    have := hB.1
    have := hB.2.1
    refine ⟨m, ?_, q_F_refl, hc, by rw [show L + R = l by omega]; exact hI, hZ⟩
    rw [y_E_260_89, if_pos (by rw [z_w_id (by omega) (by omega), z_w_id (by omega) (by omega)]; omega), y_E_260_149]
  | succ n ih =>
    intro l m hn hs hc hI hZ
    have hcc := hc
    obtain ⟨g0, g1, gA, gB, g4, g6, hlw, ht4, hR, hB⟩ := hcc
    have hB' := hB
    obtain ⟨b1, b2, b3, b4, b5, b6, _⟩ := hB'
    have hWl := c_wh_lt (t := t) b1 b2
    have hT4 : T < 4096 := by have := m_sub_le hT; omega
    have hT0 : 0 < T := by
      rcases Nat.eq_zero_or_pos T with q | q
      · rw [q, show n_pop 0 = 0 from by decide] at hp1; omega
      · exact q
    have hinW : ∀ j, W.testBit j = true → j < L + R := fun j hj => by rw [hW] at hj; exact c_wh_in hj
    have lo := w_low hT4 hT0
    have hlo := hinW _ (hT _ lo.2.2.1)
    have qT : T.testBit l = false := by
      cases q : T.testBit l
      · rfl
      · have a := n_pop_rm hT4 lo.2.2.1
        have z := n_pop_0 (x := w_rm T (n_low T)) (w_rm_low hT4) (by omega)
        have : (w_rm T (n_low T)).testBit l = true := by rw [w_rm_bit, q, decide_eq_true (show l ≠ n_low T by omega)]; rfl
        rw [z] at this; simp at this
    have e1 : (l : Int) + 1 = ((l + 1 : Nat) : Int) := by omega
    have t211 := t_211 (sp := sp) (ph := ph) (d := d + 5) (m := m) (x := n_low T) (y := l) g0 b1 (by omega) (by omega)
    rw [y_E_260_89, if_neg (by rw [z_w_id (by omega) (by omega), z_w_id (by omega) (by omega)]; omega), t211, e_bI, n_bit (by omega) (by omega)]
    cases qW : W.testBit l
    · obtain ⟨m2, c1, c2, c3⟩ := ih (l + 1) m (by omega) (by omega) hc (fun U hole hU hb hl o h => by
        refine m_rf_congr (hI U hole hU hb hl o h) (fun E => ?_)
        have : hole ≠ l := fun e => by have := hU hole hb; rw [e, qW] at this; cases this
        constructor
        · rintro ⟨q | ⟨q1, q2⟩, g⟩
          · exact ⟨Or.inl q, g⟩
          · exact ⟨Or.inr ⟨q1, by omega⟩, g⟩
        · rintro ⟨q | ⟨q1, q2⟩, g⟩
          · exact ⟨Or.inl q, g⟩
          · exact ⟨Or.inr ⟨q1, by omega⟩, g⟩) hZ
      refine ⟨m2, ?_, c2, c3⟩
      rw [if_pos (by decide), y_E_260_143, e1]; exact c1
    · have p12 : 1 <<< l < 2 ^ 12 := by rw [Nat.one_shiftLeft]; exact Nat.pow_lt_pow_right (by decide) (by omega)
      have hU4 : T ||| 1 <<< l < 4096 := Nat.or_lt_two_pow (n := 12) hT4 p12
      have hUb : (T ||| 1 <<< l).testBit l = true := by rw [Nat.testBit_or, Nat.one_shiftLeft, Nat.testBit_two_pow]; simp
      have hUr := m_or_rm qT
      have hUW : ∀ j, (T ||| 1 <<< l).testBit j = true → W.testBit j = true := fun j hj => by
        rw [Nat.testBit_or, Nat.one_shiftLeft, Nat.testBit_two_pow, Bool.or_eq_true] at hj
        rcases hj with q | q
        · exact hT j q
        · rw [← of_decide_eq_true q]; exact qW
      have loU := w_low hU4 (m_nz hUb)
      have hUl : l ≠ n_low (T ||| 1 <<< l) := fun e => by
        have a := loU.2.2.2 (n_low T) (by omega) (by omega)
        rw [Nat.testBit_or, lo.2.2.1] at a; simp at a
      obtain ⟨u1, u2⟩ := m_up_low hU4 hUb hUl hUr
      have hpU := n_pop_rm hU4 hUb
      rw [hUr, hp1] at hpU
      have ixl := m_ix_lt (i := r_x L (n_low T) l) (f := r_x L (n_low T) l) hU4 (show l < 12 by omega)
      have t258 := t_258 (sp := sp) (ph := ph) (d := d + 6) (m := m) (S := T ||| 1 <<< l) (hole := l) (i := r_x L (n_low T) l) (f := r_x L (n_low T) l)
      have t212 := t_212 (sp := sp) (ph := ph) (d := d + 4) (m := m) (x := n_low T) (y := l) (R := R) g0 gA gB b1 b2 hlo (by omega) b4 b6
      have key : ∀ (w : Nat) (r : y_Rs), w < 196608 → y_g (0 ≤ (w : Int) ∧ (w : Int) < (196608 : Int)) r = r := fun w r h => e_g ⟨by omega, by omega⟩
      have eor : z_ior (T : Int) (z_ishl 1 (l : Int)) = ((T ||| 1 <<< l : Nat) : Int) := by
        rw [show (1 : Int) = ((1 : Nat) : Int) from rfl, n_ishl (by omega) (by omega), n_ior (by omega) (by omega)]
      have F1 : q_F (fun a k => a = 99 ∧ k = m_ix (T ||| 1 <<< l) l (r_x L (n_low T) l) (r_x L (n_low T) l)) m (y_sJ m 99 (m_ix (T ||| 1 <<< l) l (r_x L (n_low T) l) (r_x L (n_low T) l)) (r_code L A B (n_low T) l)) := q_F_sJ ⟨rfl, rfl⟩
      obtain ⟨m2, c1, c2, c3⟩ := ih (l + 1) _ (by omega) (by omega) (m_Ch_F hc F1 (fun a k q => by unfold q_wr; omega)) (fun U hole hU hb hl o h => by
        have old := hI U hole hU hb hl o h
        have hUU : U < 4096 := by have := m_sub_le hU; omega
        have hh := hinW _ (hU _ hb)
        by_cases q3 : U = T ||| 1 <<< l ∧ hole = l
        · obtain ⟨rfl, rfl⟩ := q3
          rw [hUr, u1, u2, show n_pop (T ||| 1 <<< hole) - 2 = 0 by omega] at old ⊢
          by_cases q4 : o = r_x L (n_low T) hole ∧ h = r_x L (n_low T) hole
          · obtain ⟨rfl, rfl⟩ := q4
            rw [e_JJ]
            refine Or.inr ⟨[w_e (n_low T) hole], ⟨Or.inr ⟨rfl, by omega⟩, rfl, rfl, rfl⟩, by rw [w_code_cons]; rfl, ?_⟩
            rintro F ⟨_, _, _, rfl⟩; omega
          · have hne := m_ix_ne (S := T ||| 1 <<< hole) (S' := T ||| 1 <<< hole) (i := o) (f := h) (i' := r_x L (n_low T) hole) (f' := r_x L (n_low T) hole) (show hole < 12 by omega) (show hole < 12 by omega) (fun e => q4 ⟨e.2.2.1, e.2.2.2⟩)
            rw [e_JJ' (by omega)]
            have : y_mJ m 99 (m_ix (T ||| 1 <<< hole) hole o h) = -1 := (m_rf_F old).mpr (fun E g => by
              obtain ⟨g | g, _⟩ := g <;> omega)
            rw [this]
            exact m_rf_none (fun E g => q4 ⟨g.2.1.symm, g.2.2.1.symm⟩)
        · have hne := m_ix_ne (S := U) (S' := T ||| 1 <<< l) (i := o) (f := h) (i' := r_x L (n_low T) l) (f' := r_x L (n_low T) l) (show hole < 12 by omega) (show l < 12 by omega) (fun e => q3 ⟨e.1, e.2.1⟩)
          rw [e_JJ' (by omega)]
          refine m_rf_congr old (fun E => ?_)
          constructor
          · rintro ⟨q | ⟨q1, q2⟩, g⟩
            · exact ⟨Or.inl q, g⟩
            · exact ⟨Or.inr ⟨q1, by omega⟩, g⟩
          · rintro ⟨q | ⟨q1, q2⟩, g⟩
            · exact ⟨Or.inl q, g⟩
            · refine ⟨Or.inr ⟨q1, ?_⟩, g⟩
              rcases Nat.lt_or_ge hole l with r | r
              · exact r
              · have : hole = l := by omega
                subst this
                exact absurd ⟨m_or_un hb q1, rfl⟩ q3) (fun U hole o h hU hh hno => by
        have hne := m_ix_ne (S := U) (S' := T ||| 1 <<< l) (i := o) (f := h) (i' := r_x L (n_low T) l) (f' := r_x L (n_low T) l) hh (show l < 12 by omega) (fun e => hno (by rw [e.1, e.2.1]; exact ⟨hUW, hUb, hUl⟩))
        rw [e_JJ' (by omega)]
        exact hZ U hole o h hU hh hno)
      refine ⟨m2, ?_, q_F_trans (q_F_mono F1 (fun a k q => q.1)) c2, c3⟩
      rw [if_neg (by decide), eor, t258, e_bI, t212, e_bL, key _ _ ixl, Int.toNat_natCast, y_E_260_143, e1]
      exact c1
end Home
