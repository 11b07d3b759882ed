section Best
variable {sp : Nat → Nat} {ph : Bool} {d : Nat} {m : y_m} {L R A B lw what S been idx : Nat} {i f : Bool}
def m_9 (a _k : Nat) : Prop := a = 92 ∨ a = 93
def m_96 (a _k : Nat) : Prop := a = 92 ∨ a = 93 ∨ a = 96
theorem m_Cb_9 {m' : y_m} (h : m_Cb m L R A B lw S) (hF : q_F m_96 m m') : m_Cb m' L R A B lw S := m_Cb_F h hF (fun a k q => by unfold m_96 at q; unfold q_wr; omega)
theorem m_9_96 {m m' : y_m} (hF : q_F m_9 m m') : q_F m_96 m m' := q_F_mono hF (fun a k q => by unfold m_9 at q; unfold m_96; omega)
theorem m_bs_9 {m' : y_m} {lo : Nat} (h : m_bs m L A B lw what S lo) (hF : q_F m_9 m m') : m_bs m' L A B lw what S lo := fun b h1 h2 j h3 h4 h5 i f => by
  rw [q_F_J hF 96 _ (by unfold m_9; omega)]; exact h b h1 h2 j h3 h4 h5 i f
/-- whether a number takes the place of another -/
theorem t_tkb {w v : Int} (hc : q_RR m A B) (hw : what ≤ 2) (w1 : -1 ≤ w) (w2 : w < 167772160000) (v1 : -1 ≤ v) (v2 : v < 167772160000) : (w = -1 ∧ m_tk A B what w v = false) ∨ (w ≠ -1 ∧ v = -1 ∧ m_tk A B what w v = true) ∨ (w ≠ -1 ∧ v ≠ -1 ∧ ∃ m', y_V sp ph (d + 4) 219 [y_bo 11 0 49, y_bl w, y_bl v, y_bi (what : Int)] m = y_rI (n_b (m_tk A B what w v)) m' ∧ q_F m_9 m m') := by
  by_cases a : w = -1
  · exact Or.inl ⟨a, by rw [a]; exact m_tk_1⟩
  · by_cases b : v = -1
    · refine Or.inr (Or.inl ⟨a, b, ?_⟩)
      unfold m_tk
      rw [decide_eq_true b, decide_eq_true (show w ≠ -1 from a)]; rfl
    · refine Or.inr (Or.inr ⟨a, b, ?_⟩)
      obtain ⟨m', e1, e2⟩ := t_219 (sp := sp) (ph := ph) (d := d) (x := w.toNat) (y := v.toNat) (what := what) hc (by omega) (by omega) hw
      rw [Int.toNat_of_nonneg (by omega), Int.toNat_of_nonneg (by omega)] at e1
      refine ⟨m', ?_, e2⟩
      unfold m_tk
      rw [decide_eq_false b, decide_eq_true (show w ≠ -1 from a), Bool.false_or, Bool.true_and]
      exact e1
theorem l_251 (hw : what ≤ 2) (hb : been < 2 ^ (n_pop S - 1)) (hi : idx < n_pop S) (hii : 1 ≤ idx) (hbi : been.testBit (idx - 1) = true) : ∀ (n j : Nat) (a : Nat × Int) (m : y_m), j + n = n_pop S → 1 ≤ j → m_Cb m L R A B lw S → m_bs m L A B lw what S (been + 1) → -1 ≤ a.2 → a.2 < 167772160000 → ∃ m', y_R sp ph (d + 4) 251 78 [some (y_bo 11 0 49), some (y_bi (been : Int)), some (y_bi (idx : Int)), some (y_bi (n_b i)), some (y_bi (n_b f)), some (y_bi (what : Int)), some (y_bl a.2), none, some (y_bi (j : Int)), none, none] [] m = y_rL (m_fk A B what (m_bj A B L lw what S been idx i f) n j a).2 m' ∧ q_F m_9 m m' := by
  intro n
  induction n with
  | zero =>
    intro j a m hj h1 hc hbs a1 a2
    have hp := n_pop_le hc.1.2.2.2.2.2.1
    have g5 := hc.1.2.2.2.2.1.1
    refine ⟨m, ?_, q_F_refl⟩
    rw [m_fk, y_E_251_78]
    simp (disch := omega) only [z_w_id, if_pos, if_neg, e_g, e_bI, e_bV, e_bL, e_II, e_II', e_IJ, e_JI, e_JJ, e_JJ', reduceIte, not_true_eq_false, not_false_eq_true, true_or, or_true, true_and, and_true, e_nb0, e_gT, g5, y_E_251_141]
  | succ n ih =>
    intro j a m hj h1 hc hbs a1 a2
    have hp := n_pop_le hc.1.2.2.2.2.2.1
    have g5 := hc.1.2.2.2.2.1.1
    have ej1 : (j : Int) + 1 = ((j + 1 : Nat) : Int) := by omega
    have t252 := t_252 (sp := sp) (ph := ph) (d := d) (i := i) (f := f) hc hw hb hi h1 (show j < n_pop S by omega) hbs
    have bj := m_bj_b (i := i) (f := f) hc hw hb hi h1 (show j < n_pop S by omega) hii hbi
    have lc1 : (z_w (z_lcmp (m_bj A B L lw what S been idx i f j) (-1)) = 0) = (m_bj A B L lw what S been idx i f j = -1) := n_lc_eq (by omega) (by omega) (by omega) (by omega)
    have lc2 : (z_w (z_lcmp a.2 (-1)) = 0) = (a.2 = -1) := n_lc_eq (by omega) (by omega) (by omega) (by omega)
    rw [m_fk, y_E_251_78, if_neg (by rw [g5, z_w_id (by omega) (by omega), z_w_id (by omega) (by omega)]; omega), t252, e_bL]
    rcases t_tkb (sp := sp) (ph := ph) (d := d) (m := m) (w := m_bj A B L lw what S been idx i f j) (v := a.2) hc.2.2.2.1 hw bj.1 bj.2 a1 a2 with ⟨c1, c2⟩ | ⟨c1, c2, c3⟩ | ⟨c1, c2, m1, c3, c4⟩
    · obtain ⟨m2, b1, b2⟩ := ih (j + 1) a m (by omega) (by omega) hc hbs a1 a2
      refine ⟨m2, ?_, b2⟩
      rw [c2, if_pos (by rw [lc1]; exact c1), y_E_251_135, ej1, b1]
      rfl
    · obtain ⟨m2, b1, b2⟩ := ih (j + 1) (j, m_bj A B L lw what S been idx i f j) m (by omega) (by omega) hc hbs bj.1 bj.2
      refine ⟨m2, ?_, b2⟩
      rw [c3, if_neg (by rw [lc1]; exact c1), if_pos (by rw [lc2]; exact c2), y_E_251_131, y_E_251_135, ej1, b1]
      rfl
    · rw [if_neg (by rw [lc1]; exact c1), if_neg (by rw [lc2]; exact c2), c3, e_bI]
      have hc1 := m_Cb_9 hc (m_9_96 c4)
      have hb1 := m_bs_9 hbs c4
      cases k : m_tk A B what (m_bj A B L lw what S been idx i f j) a.2
      · obtain ⟨m2, b1, b2⟩ := ih (j + 1) a m1 (by omega) (by omega) hc1 hb1 a1 a2
        refine ⟨m2, ?_, q_F_trans c4 b2⟩
        rw [if_pos (by decide), y_E_251_135, ej1, b1]
        rfl
      · obtain ⟨m2, b1, b2⟩ := ih (j + 1) (j, m_bj A B L lw what S been idx i f j) m1 (by omega) (by omega) hc1 hb1 bj.1 bj.2
        refine ⟨m2, ?_, q_F_trans c4 b2⟩
        rw [if_neg (by decide), y_E_251_131, y_E_251_135, ej1, b1]
        rfl
/-- the number of a state is what its next places give -/
theorem m_bw_fk (h : m_Cb m L R A B lw S) (hr : 0 < n_pop (r_rest S been)) : m_Rr S (m_fk A B what (m_bb A B L lw what (r_hs S 0) (n_pop (r_rest S been) - 1) (r_hs S idx) i (r_rest S been) f) 12 0 (0, -1)) (m_fk A B what (m_bj A B L lw what S been idx i f) (n_pop S - 1) 1 (0, -1)) ∧ m_bw A B L lw what S been idx i f = (m_fk A B what (m_bj A B L lw what S been idx i f) (n_pop S - 1) 1 (0, -1)).2 := by
  have hS := h.1.2.2.2.2.2.1
  have hk := h.1.2.2.2.2.2.2
  have a := m_fk_ix1 (A := A) (B := B) (what := what) (been := been) (G := m_bb A B L lw what (r_hs S 0) (n_pop (r_rest S been) - 1) (r_hs S idx) i (r_rest S been) f) hS (by omega) (fun h q => by unfold m_bb; rw [if_neg (fun e => q e.1)])
  refine ⟨a, ?_⟩
  have e : m_bw A B L lw what S been idx i f = m_bv A B L lw what (r_hs S 0) (n_pop (r_rest S been) - 1 + 1) (r_hs S idx) i (r_rest S been) f := by
    unfold m_bw
    rw [Nat.sub_add_cancel hr]
  rw [e, m_bv_succ]
  exact a.1
theorem t_251 (hc : m_Cb m L R A B lw S) (hw : what ≤ 2) (hb : been < 2 ^ (n_pop S - 1)) (hi : idx < n_pop S) (hii : 1 ≤ idx) (hbi : been.testBit (idx - 1) = true) (hbs : m_bs m L A B lw what S (been + 1)) : ∃ m', y_V sp ph (d + 5) 251 [y_bo 11 0 49, y_bi (been : Int), y_bi (idx : Int), y_bi (n_b i), y_bi (n_b f), y_bi (what : Int)] m = y_rL (m_bw A B L lw what S been idx i f) m' ∧ q_F m_9 m m' := by
  have hc' := hc
  obtain ⟨⟨g1, g2, g3, g4, ⟨g5, g6⟩, g7, g8⟩, x2, x3, x4, x5, x6⟩ := hc'
  obtain ⟨b1, b2, b3, b4, b5, b6, _⟩ := x5
  have hp := n_pop_le g7
  have hpw := r_pw g7
  have hal := r_rest_all g7 (by omega) hb
  have t237 := t_237 (sp := sp) (ph := ph) (d := d + 3) g5 (by omega) hp
  have h1 := (r_hs_B hi).1
  have h0 := (r_hs_B (S := S) (show 0 < n_pop S by omega)).1
  have ei : y_mI m 94 (idx : Int).toNat = (r_hs S idx : Int) := g6 idx hi
  have ei' := g6 idx hi
  have e0 := g6 0 (by omega)
  by_cases q : been = 2 ^ (n_pop S - 1) - 1
  · refine ⟨m, ?_, q_F_refl⟩
    have qi : (been : Int) = ((2 ^ (n_pop S - 1) - 1 : Nat) : Int) := by rw [q]
    have t212 := t_212 (sp := sp) (ph := ph) (d := d + 1) (m := m) (R := R) g1 x2 x3 b1 b2 (m_Cb_B hc hi) (m_Cb_B hc (show 0 < n_pop S by omega)) b4 b6
    unfold m_bw
    rw [hal.mpr q, m_bv]
    generalize 2 ^ (n_pop S - 1) - 1 = al at *
    cases c2 : r_may lw i (r_x L (r_hs S idx) (r_hs S 0))
    · simp (disch := omega) only [y_C_251, y_E_251_0, y_E_251_66, y_E_251_69, z_w_id, if_pos, if_neg, e_g, e_bI, e_bV, e_bL, e_II, e_II', e_IJ, e_JI, e_JJ, e_JJ', reduceIte, not_true_eq_false, not_false_eq_true, true_or, or_true, true_and, and_true, e_nb0, e_gT, t237, ei, ei', e0, t_211 g1 g3, t_227 g2 g4, c2, Bool.false_eq_true, false_and]
    · cases c3 : r_may lw (r_x L (r_hs S idx) (r_hs S 0)) f
      · simp (disch := omega) only [y_C_251, y_E_251_0, y_E_251_66, y_E_251_69, z_w_id, if_pos, if_neg, e_g, e_bI, e_bV, e_bL, e_II, e_II', e_IJ, e_JI, e_JJ, e_JJ', reduceIte, not_true_eq_false, not_false_eq_true, true_or, or_true, true_and, and_true, e_nb0, e_gT, t237, ei, ei', e0, t_211 g1 g3, t_227 g2 g4, c2, c3, Bool.false_eq_true, Bool.true_eq_false, and_false]
      · simp (disch := omega) only [y_C_251, y_E_251_0, y_E_251_66, y_E_251_69, z_w_id, if_pos, if_neg, e_g, e_bI, e_bV, e_bL, e_II, e_II', e_IJ, e_JI, e_JJ, e_JJ', reduceIte, not_true_eq_false, not_false_eq_true, true_or, or_true, true_and, and_true, e_nb0, e_gT, t237, ei, ei', e0, t_211 g1 g3, t_227 g2 g4, c2, c3, Bool.false_eq_true, Bool.true_eq_false, and_self, t212, e_bL]
  · have hr : 0 < n_pop (r_rest S been) := by
      rcases Nat.eq_zero_or_pos (n_pop (r_rest S been)) with r | r
      · exact absurd (hal.mp r) q
      · exact r
    rw [(m_bw_fk (what := what) (idx := idx) (i := i) (f := f) hc hr).2]
    obtain ⟨m2, l1, l2⟩ := l_251 (sp := sp) (ph := ph) (d := d) (i := i) (f := f) hw hb hi hii hbi (n_pop S - 1) 1 (0, -1) m (by omega) (by omega) hc hbs (by decide) (by decide)
    refine ⟨m2, ?_, l2⟩
    have l1' : y_R sp ph (d + 4) 251 78 [some (y_bo 11 0 49), some (y_bi (been : Int)), some (y_bi (idx : Int)), some (y_bi (n_b i)), some (y_bi (n_b f)), some (y_bi (what : Int)), some (y_bl (-1)), none, some (y_bi 1), none, none] [] m = _ := l1
    have hal2 : 2 ^ (n_pop S - 1) - 1 < 2048 := by omega
    generalize 2 ^ (n_pop S - 1) - 1 = al at *
    simp (disch := omega) only [y_C_251, y_E_251_0, y_E_251_70, z_w_id, if_pos, if_neg, e_g, e_bI, e_bV, e_bL, e_II, e_II', e_IJ, e_JI, e_JJ, e_JJ', reduceIte, not_true_eq_false, not_false_eq_true, true_or, or_true, true_and, and_true, e_nb0, e_gT, t237, l1']
theorem m_bs_sJ {lo j : Nat} {v : Int} (h : m_bs m L A B lw what S lo) (hS : S < 4096) (hb : been < lo) (hj : j < 12) : m_bs (y_sJ m 96 (r_wi been j i f) v) L A B lw what S lo := by
  intro b1 h1 h2 j1 h3 h4 h5 i1 f1
  have hp := n_pop_le hS
  rw [e_JJ' fun e => r_wi_ne (by omega) hj (fun q => by omega) e.2]
  exact h b1 h1 h2 j1 h3 h4 h5 i1 f1
theorem l_250c (hc : m_Cb m L R A B lw S) (hw : what ≤ 2) (hb : been < 2 ^ (n_pop S - 1)) (hi : idx < n_pop S) (hii : 1 ≤ idx) (hbi : been.testBit (idx - 1) = true) (hbs : m_bs m L A B lw what S (been + 1)) : ∃ m1, y_R sp ph (d + 5) 250 35 [some (y_bo 11 0 49), some (y_bi (what : Int)), some (y_bi (been : Int)), some (y_bi (idx : Int)), some (y_bi (2 * n_b i + n_b f))] [] m = y_R sp ph (d + 5) 250 35 [some (y_bo 11 0 49), some (y_bi (what : Int)), some (y_bi (been : Int)), some (y_bi (idx : Int)), some (y_bi (2 * n_b i + n_b f + 1))] [] (y_sJ m1 96 (r_wi been idx i f) (m_bw A B L lw what S been idx i f)) ∧ q_F m_9 m m1 := by
  have hc' := hc
  obtain ⟨⟨g1, g2, g3, g4, ⟨g5, g6⟩, g7, g8⟩, x2, x3, x4, x5, x6⟩ := hc'
  have hp := n_pop_le g7
  have hpw := r_pw g7
  have wlt := r_wi_lt (i := i) (f := f) (show been < 2048 by omega) (show idx < 12 by omega)
  obtain ⟨m1, t251, hF⟩ := t_251 (sp := sp) (ph := ph) (d := d) (i := i) (f := f) hc hw hb hi hii hbi hbs
  have ew : (((been : Int) * 12 + (idx : Int)) * 4 + 2 * n_b i + n_b f) = (r_wi been idx i f : Int) := by
    unfold r_wi
    rw [n_b_nat, n_b_nat]; omega
  have t236 : y_V sp ph (d + 5) 236 [y_bo 11 0 49, y_bi (been : Int), y_bi (idx : Int), y_bi (n_b i), y_bi (n_b f)] m = y_rI (r_wi been idx i f : Int) m := by
    rw [t_236 (d := d + 4), ew]
  have key : ∀ (w : Nat) (r : y_Rs), w < 98304 → y_g (0 ≤ (w : Int) ∧ (w : Int) < (98304 : Int)) r = r := fun w r h => e_g ⟨by omega, by omega⟩
  refine ⟨m1, ?_, hF⟩
  generalize m_bw A B L lw what S been idx i f = v at *
  generalize r_wi been idx i f = wi at *
  have n0 : n_b false = 0 := rfl
  have n1 : n_b true = 1 := rfl
  rw [y_E_250_35]
  cases i <;> cases f <;> simp only [n0, n1] at t251 t236 ⊢
  · simp (disch := omega) only [z_w_id, if_pos, if_neg, e_g, e_bI, e_bV, e_bL, e_II, e_II', e_IJ, e_JI, e_JJ, e_JJ', reduceIte, not_true_eq_false, not_false_eq_true, true_or, or_true, true_and, and_true, e_nb0, e_gT, y_E_250_58, y_E_250_59, y_E_250_71, y_E_250_72, n_irem, t236, y_E_250_88, y_E_250_89, y_E_250_101]
    rw [y_E_250_102, t251, e_bL, key _ _ wlt, Int.toNat_natCast]
  · simp (disch := omega) only [z_w_id, if_pos, if_neg, e_g, e_bI, e_bV, e_bL, e_II, e_II', e_IJ, e_JI, e_JJ, e_JJ', reduceIte, not_true_eq_false, not_false_eq_true, true_or, or_true, true_and, and_true, e_nb0, e_gT, y_E_250_58, y_E_250_59, y_E_250_71, y_E_250_72, n_irem, t236, y_E_250_88, y_E_250_89, y_E_250_101]
    rw [y_E_250_102, t251, e_bL, key _ _ wlt, Int.toNat_natCast]
  · simp (disch := omega) only [z_w_id, if_pos, if_neg, e_g, e_bI, e_bV, e_bL, e_II, e_II', e_IJ, e_JI, e_JJ, e_JJ', reduceIte, not_true_eq_false, not_false_eq_true, true_or, or_true, true_and, and_true, e_nb0, e_gT, y_E_250_58, y_E_250_59, y_E_250_71, y_E_250_72, n_irem, t236, y_E_250_88, y_E_250_89, y_E_250_101]
    rw [y_E_250_102, t251, e_bL, key _ _ wlt, Int.toNat_natCast]
  · simp (disch := omega) only [z_w_id, if_pos, if_neg, e_g, e_bI, e_bV, e_bL, e_II, e_II', e_IJ, e_JI, e_JJ, e_JJ', reduceIte, not_true_eq_false, not_false_eq_true, true_or, or_true, true_and, and_true, e_nb0, e_gT, y_E_250_58, y_E_250_59, y_E_250_71, y_E_250_72, n_irem, t236, y_E_250_88, y_E_250_89, y_E_250_101]
    rw [y_E_250_102, t251, e_bL, key _ _ wlt, Int.toNat_natCast]
def m_b1 (m : y_m) (L A B lw what S been J : Nat) : Prop := ∀ j, 1 ≤ j → j < J → been.testBit (j - 1) = true → ∀ i f, y_mJ m 96 (r_wi been j i f) = m_bw A B L lw what S been j i f
theorem l_250b (hc : m_Cb m L R A B lw S) (hw : what ≤ 2) (hb : been < 2 ^ (n_pop S - 1)) (hi : idx < n_pop S) (hii : 1 ≤ idx) (hbi : been.testBit (idx - 1) = true) (hbs : m_bs m L A B lw what S (been + 1)) (hr : m_b1 m L A B lw what S been idx) : ∃ m', y_R sp ph (d + 5) 250 35 [some (y_bo 11 0 49), some (y_bi (what : Int)), some (y_bi (been : Int)), some (y_bi (idx : Int)), some (y_bi 0)] [] m = y_R sp ph (d + 5) 250 113 [some (y_bo 11 0 49), some (y_bi (what : Int)), some (y_bi (been : Int)), some (y_bi (idx : Int)), none] [] m' ∧ q_F m_96 m m' ∧ m_Cb m' L R A B lw S ∧ m_bs m' L A B lw what S (been + 1) ∧ m_b1 m' L A B lw what S been (idx + 1) := by
  have hS := hc.1.2.2.2.2.2.1
  have hp := n_pop_le hS
  have st : ∀ (i f : Bool) (m : y_m), m_Cb m L R A B lw S → m_bs m L A B lw what S (been + 1) → ∃ m2, y_R sp ph (d + 5) 250 35 [some (y_bo 11 0 49), some (y_bi (what : Int)), some (y_bi (been : Int)), some (y_bi (idx : Int)), some (y_bi (2 * n_b i + n_b f))] [] m = y_R sp ph (d + 5) 250 35 [some (y_bo 11 0 49), some (y_bi (what : Int)), some (y_bi (been : Int)), some (y_bi (idx : Int)), some (y_bi (2 * n_b i + n_b f + 1))] [] m2 ∧ q_F (fun a k => a = 92 ∨ a = 93 ∨ (a = 96 ∧ k = r_wi been idx i f)) m m2 ∧ m_Cb m2 L R A B lw S ∧ m_bs m2 L A B lw what S (been + 1) ∧ y_mJ m2 96 (r_wi been idx i f) = m_bw A B L lw what S been idx i f := by
    intro i f m hc hbs
    obtain ⟨m1, a1, a2⟩ := l_250c (sp := sp) (ph := ph) (d := d) (i := i) (f := f) hc hw hb hi hii hbi hbs
    have F2 : q_F m_96 m1 (y_sJ m1 96 (r_wi been idx i f) (m_bw A B L lw what S been idx i f)) := q_F_sJ (Or.inr (Or.inr rfl))
    refine ⟨_, a1, q_F_trans (q_F_mono a2 (fun a k q => by unfold m_9 at q; omega)) (q_F_sJ (by omega)), m_Cb_9 (m_Cb_9 hc (m_9_96 a2)) F2, m_bs_sJ (m_bs_9 hbs a2) hS (by omega) (by omega), e_JJ⟩
  obtain ⟨m1, a1, a2, a3, a4, a5⟩ := st false false m hc hbs
  obtain ⟨m2, c1, c2, c3, c4, c5⟩ := st false true m1 a3 a4
  obtain ⟨m3, d1, d2, d3, d4, d5⟩ := st true false m2 c3 c4
  obtain ⟨m4, f1, f2, f3, f4, f5⟩ := st true true m3 d3 d4
  have up : ∀ {i f : Bool} {m m' : y_m}, q_F (fun a k => a = 92 ∨ a = 93 ∨ (a = 96 ∧ k = r_wi been idx i f)) m m' → q_F m_96 m m' := fun h => q_F_mono h (fun a k q => by unfold m_96; omega)
  refine ⟨m4, ?_, q_F_trans (up a2) (q_F_trans (up c2) (q_F_trans (up d2) (up f2))), f3, f4, ?_⟩
  · have b0 : y_R sp ph (d + 5) 250 35 [some (y_bo 11 0 49), some (y_bi (what : Int)), some (y_bi (been : Int)), some (y_bi (idx : Int)), some (y_bi 0)] [] m = _ := a1
    have b1 : y_R sp ph (d + 5) 250 35 [some (y_bo 11 0 49), some (y_bi (what : Int)), some (y_bi (been : Int)), some (y_bi (idx : Int)), some (y_bi (2 * n_b false + n_b false + 1))] [] m1 = _ := c1
    have b2 : y_R sp ph (d + 5) 250 35 [some (y_bo 11 0 49), some (y_bi (what : Int)), some (y_bi (been : Int)), some (y_bi (idx : Int)), some (y_bi (2 * n_b false + n_b true + 1))] [] m2 = _ := d1
    have b3 : y_R sp ph (d + 5) 250 35 [some (y_bo 11 0 49), some (y_bi (what : Int)), some (y_bi (been : Int)), some (y_bi (idx : Int)), some (y_bi (2 * n_b true + n_b false + 1))] [] m3 = _ := f1
    rw [b0, b1, b2, b3, y_E_250_35]
    have n1 : n_b true = 1 := rfl
    simp (disch := omega) only [z_w_id, if_pos, if_neg, e_g, e_bI, e_bV, e_bL, e_II, e_II', e_IJ, e_JI, e_JJ, e_JJ', reduceIte, not_true_eq_false, not_false_eq_true, true_or, or_true, true_and, and_true, e_nb0, e_gT, n1]
  · intro j hj hj2 hbit i f
    have g : ∀ i' f', ¬ (j = idx ∧ i = i' ∧ f = f') → ¬ (96 = 92 ∨ 96 = 93 ∨ (96 = 96 ∧ r_wi been j i f = r_wi been idx i' f')) := fun i' f' q => by
      have := r_wi_ne (b := been) (b' := been) (i := i) (f := f) (i' := i') (f' := f') (show j < 12 by omega) (show idx < 12 by omega) (fun e => q e.2)
      omega
    by_cases q : j = idx
    · subst q
      cases i <;> cases f
      · rw [q_F_J f2 96 _ (g _ _ (by simp)), q_F_J d2 96 _ (g _ _ (by simp)), q_F_J c2 96 _ (g _ _ (by simp)), a5]
      · rw [q_F_J f2 96 _ (g _ _ (by simp)), q_F_J d2 96 _ (g _ _ (by simp)), c5]
      · rw [q_F_J f2 96 _ (g _ _ (by simp)), d5]
      · rw [f5]
    · rw [q_F_J f2 96 _ (g _ _ (fun z => q z.1)), q_F_J d2 96 _ (g _ _ (fun z => q z.1)), q_F_J c2 96 _ (g _ _ (fun z => q z.1)), q_F_J a2 96 _ (g _ _ (fun z => q z.1))]
      exact hr j hj (by omega) hbit i f
theorem l_250a (hw : what ≤ 2) (hb : been < 2 ^ (n_pop S - 1)) : ∀ (n j : Nat) (m : y_m), j + n = n_pop S → 1 ≤ j → m_Cb m L R A B lw S → m_bs m L A B lw what S (been + 1) → m_b1 m L A B lw what S been j → ∃ m', y_R sp ph (d + 5) 250 11 [some (y_bo 11 0 49), some (y_bi (what : Int)), some (y_bi (been : Int)), some (y_bi (j : Int)), none] [] m = y_R sp ph (d + 5) 250 119 [some (y_bo 11 0 49), some (y_bi (what : Int)), some (y_bi (been : Int)), none, none] [] m' ∧ q_F m_96 m m' ∧ m_Cb m' L R A B lw S ∧ m_bs m' L A B lw what S been := by
  intro n
  induction n with
  | zero =>
    intro j m hj h1 hc hbs hr
    have hp := n_pop_le hc.1.2.2.2.2.2.1
    have g5 := hc.1.2.2.2.2.1.1
    refine ⟨m, ?_, q_F_refl, hc, ?_⟩
    · rw [y_E_250_11]
      simp (disch := omega) only [z_w_id, if_pos, if_neg, e_g, e_bI, e_bV, e_bL, e_II, e_II', e_IJ, e_JI, e_JJ, e_JJ', reduceIte, not_true_eq_false, not_false_eq_true, true_or, or_true, true_and, and_true, e_nb0, e_gT, g5]
    · intro b1 h2 h3 j1 h4 h5 h6 i f
      by_cases q : b1 = been
      · subst q; exact hr j1 h4 (by omega) h6 i f
      · exact hbs b1 (by omega) h3 j1 h4 h5 h6 i f
  | succ n ih =>
    intro j m hj h1 hc hbs hr
    have hp := n_pop_le hc.1.2.2.2.2.2.1
    have hpw := r_pw hc.1.2.2.2.2.2.1
    have g5 := hc.1.2.2.2.2.1.1
    have e1 : (j : Int) - 1 = ((j - 1 : Nat) : Int) := by omega
    have ej1 : (j : Int) + 1 = ((j + 1 : Nat) : Int) := by omega
    by_cases q : been.testBit (j - 1) = true
    · obtain ⟨m1, a1, a2, a3, a4, a5⟩ := l_250b (sp := sp) (ph := ph) (d := d) hc hw hb (show j < n_pop S by omega) h1 q hbs hr
      obtain ⟨m2, b1, b2, b3, b4⟩ := ih (j + 1) m1 (by omega) (by omega) a3 a4 a5
      refine ⟨m2, ?_, q_F_trans a2 b2, b3, b4⟩
      rw [y_E_250_11]
      simp (disch := omega) only [z_w_id, if_pos, if_neg, e_g, e_bI, e_bV, e_bL, e_II, e_II', e_IJ, e_JI, e_JJ, e_JJ', reduceIte, not_true_eq_false, not_false_eq_true, true_or, or_true, true_and, and_true, e_nb0, e_gT, g5, e1, n_bit, q, y_E_250_32, a1, y_E_250_113, ej1]
      exact b1
    · obtain ⟨m2, b1, b2, b3, b4⟩ := ih (j + 1) m (by omega) (by omega) hc hbs (fun j1 h2 h3 h4 i f => by
        by_cases e : j1 = j
        · subst e; exact absurd h4 q
        · exact hr j1 h2 (by omega) h4 i f)
      refine ⟨m2, ?_, b2, b3, b4⟩
      rw [y_E_250_11]
      simp (disch := omega) only [z_w_id, if_pos, if_neg, e_g, e_bI, e_bV, e_bL, e_II, e_II', e_IJ, e_JI, e_JJ, e_JJ', reduceIte, not_true_eq_false, not_false_eq_true, true_or, or_true, true_and, and_true, e_nb0, e_gT, g5, e1, n_bit, q, y_E_250_113, ej1, Bool.false_eq_true]
      exact b1
theorem l_250 (hw : what ≤ 2) : ∀ (been : Nat) (m : y_m), been < 2 ^ (n_pop S - 1) → m_Cb m L R A B lw S → m_bs m L A B lw what S (been + 1) → ∃ m', y_R sp ph (d + 5) 250 5 [some (y_bo 11 0 49), some (y_bi (what : Int)), some (y_bi (been : Int)), none, none] [] m = y_rV m' ∧ q_F m_96 m m' ∧ m_Cb m' L R A B lw S ∧ m_bs m' L A B lw what S 1 := by
  intro been
  induction been with
  | zero =>
    intro m hb hc hbs
    refine ⟨m, ?_, q_F_refl, hc, hbs⟩
    rw [y_E_250_5]
    simp (disch := omega) only [z_w_id, if_pos, if_neg, e_g, e_bI, e_bV, e_bL, e_II, e_II', e_IJ, e_JI, e_JJ, e_JJ', reduceIte, not_true_eq_false, not_false_eq_true, true_or, or_true, true_and, and_true, e_nb0, e_gT, y_E_250_125]
  | succ been ih =>
    intro m hb hc hbs
    have hpw := r_pw hc.1.2.2.2.2.2.1
    obtain ⟨m1, a1, a2, a3, a4⟩ := l_250a (sp := sp) (ph := ph) (d := d) hw hb (n_pop S - 1) 1 m (by have := hc.1.2.2.2.2.2.2; omega) (by omega) hc hbs (fun j h1 h2 => by omega)
    obtain ⟨m2, b1, b2, b3, b4⟩ := ih m1 (by omega) a3 a4
    refine ⟨m2, ?_, q_F_trans a2 b2, b3, b4⟩
    have a1' : y_R sp ph (d + 5) 250 11 [some (y_bo 11 0 49), some (y_bi (what : Int)), some (y_bi ((been + 1 : Nat) : Int)), some (y_bi 1), none] [] m = _ := a1
    have e1 : ((been + 1 : Nat) : Int) + -1 = (been : Int) := by omega
    rw [y_E_250_5]
    simp (disch := omega) only [z_w_id, if_pos, if_neg, e_g, e_bI, e_bV, e_bL, e_II, e_II', e_IJ, e_JI, e_JJ, e_JJ', reduceIte, not_true_eq_false, not_false_eq_true, true_or, or_true, true_and, and_true, e_nb0, e_gT, a1', y_E_250_119, e1]
    exact b1
theorem t_250 (hw : what ≤ 2) (hc : m_Cb m L R A B lw S) : ∃ m', y_V sp ph (d + 6) 250 [y_bo 11 0 49, y_bi (what : Int)] m = y_rV m' ∧ q_F m_96 m m' ∧ m_Cb m' L R A B lw S ∧ m_bs m' L A B lw what S 1 := by
  have hp := n_pop_le hc.1.2.2.2.2.2.1
  have hq : 0 < 2 ^ (n_pop S - 1) := Nat.pow_pos (by decide)
  obtain ⟨m2, b1, b2, b3, b4⟩ := l_250 (sp := sp) (ph := ph) (d := d) hw (2 ^ (n_pop S - 1) - 1) m (by omega) hc (fun b1 h1 h2 => by omega)
  have t237 := t_237 (sp := sp) (ph := ph) (d := d + 4) hc.1.2.2.2.2.1.1 (by have := hc.1.2.2.2.2.2.2; omega) hp
  refine ⟨m2, ?_, b2, b3, b4⟩
  generalize 2 ^ (n_pop S - 1) - 1 = al at *
  simp (disch := omega) only [y_C_250, y_E_250_0, z_w_id, if_pos, if_neg, e_g, e_bI, e_bV, e_bL, e_II, e_II', e_IJ, e_JI, e_JJ, e_JJ', reduceIte, not_true_eq_false, not_false_eq_true, true_or, or_true, true_and, and_true, e_nb0, e_gT, t237]
  exact b1
end Best
