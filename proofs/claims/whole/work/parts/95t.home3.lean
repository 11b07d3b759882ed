def m_hp (lw L T c : Nat) (E : List (Nat × Nat)) : Prop := 3 ≤ n_pop T ∧ ∃ last i h E', last * 4 + 2 * i.toNat + h.toNat < c ∧ T.testBit last = true ∧ last ≠ n_low T ∧ r_may lw i (r_x L last (n_low T)) = true ∧ r_may lw (r_x L last (n_low T)) h = true ∧ m_c lw (r_x L) (n_low T) (n_pop T - 2) last (m_rs T last) i h E' ∧ E = w_e last (n_low T) :: E'
def m_rx (lw L T : Nat) (E : List (Nat × Nat)) : Prop := m_rd lw (r_x L) (n_low T) (n_pop T - 2) (w_rm T (n_low T)) E
def m_hx (lw L W T : Nat) (E : List (Nat × Nat)) : Prop := (∀ j, T.testBit j = true → W.testBit j = true) ∧ 3 ≤ n_pop T ∧ m_rx lw L T E
section Home
variable {sp : Nat → Nat} {ph : Bool} {d : Nat} {m : y_m} {L R A B lw t S T U W hole last l c : Nat} {i f o h : Bool}
theorem m_hp_rx {E : List (Nat × Nat)} (g : m_hp lw L T c E) : m_rx lw L T E := by
  obtain ⟨h3, last, i, h, E', g1, g2, g3, g4, g5, g6, rfl⟩ := g
  refine ⟨last, E', by rw [w_rm_bit, g2, decide_eq_true g3]; rfl, ?_, by rw [w_e_comm]⟩
  refine (m_hc (r_x_comm L) _ _ _ _ _ _).mpr ⟨i, h, ?_, ?_, g6⟩
  · rw [r_may_comm, r_x_comm L (n_low T) last]; exact g4
  · rw [r_may_comm, r_x_comm L (n_low T) last]; exact g5
theorem m_rx_hp {E : List (Nat × Nat)} (h3 : 3 ≤ n_pop T) (hin : ∀ j, T.testBit j = true → j * 4 + 3 < c) (g : m_rx lw L T E) : m_hp lw L T c E := by
  obtain ⟨last, E', g1, g2, g3⟩ := g
  rw [w_rm_bit, Bool.and_eq_true] at g1
  obtain ⟨i, h, e1, e2, e3⟩ := (m_hc (r_x_comm L) _ _ _ _ _ _).mp g2
  have := hin _ g1.1
  refine ⟨h3, last, i, h, E', ?_, g1.1, of_decide_eq_true g1.2, ?_, ?_, e3, by rw [g3, w_e_comm]⟩
  · have : i.toNat ≤ 1 := by cases i <;> decide
    have : h.toNat ≤ 1 := by cases h <;> decide
    omega
  · rw [r_may_comm, r_x_comm L last (n_low T)]; exact e1
  · rw [r_may_comm, r_x_comm L last (n_low T)]; exact e2
theorem m_rx_E {E : List (Nat × Nat)} (hT : T < 4096) (hin : ∀ j, T.testBit j = true → j < L + R) (h3 : 3 ≤ n_pop T) (g : m_rx lw L T E) : m_E L R E ∧ E.length = n_pop T := by
  have hT0 : 0 < T := by
    rcases Nat.eq_zero_or_pos T with q | q
    · rw [q, show n_pop 0 = 0 from by decide] at h3; omega
    · exact q
  have lo := w_low hT hT0
  have hp := n_pop_le hT
  obtain ⟨a1, a2, a3⟩ := m_rd_ok (hin _ lo.2.2.1) (by omega) (by rw [w_rm_bit]; simp) (fun x hx => hin x (by rw [w_rm_bit, Bool.and_eq_true] at hx; exact hx.1)) g
  exact ⟨⟨⟨a1, a2⟩, by omega⟩, by omega⟩
theorem m_hp_succ {E : List (Nat × Nat)} : m_hp lw L T (last * 4 + 2 * i.toNat + f.toNat + 1) E ↔ m_hp lw L T (last * 4 + 2 * i.toNat + f.toNat) E ∨ (3 ≤ n_pop T ∧ T.testBit last = true ∧ last ≠ n_low T ∧ r_may lw i (r_x L last (n_low T)) = true ∧ r_may lw (r_x L last (n_low T)) f = true ∧ ∃ E', m_c lw (r_x L) (n_low T) (n_pop T - 2) last (m_rs T last) i f E' ∧ E = w_e last (n_low T) :: E') := by
  constructor
  · rintro ⟨h3, last', i', h', E', g1, g2, g3, g4, g5, g6, g7⟩
    rcases m_c4 g1 with q | ⟨rfl, rfl, rfl⟩
    · exact Or.inl ⟨h3, last', i', h', E', q, g2, g3, g4, g5, g6, g7⟩
    · exact Or.inr ⟨h3, g2, g3, g4, g5, E', g6, g7⟩
  · rintro (⟨h3, last', i', h', E', g1, g⟩ | ⟨h3, g2, g3, g4, g5, E', g6, g7⟩)
    · exact ⟨h3, last', i', h', E', by omega, g⟩
    · exact ⟨h3, last, i, f, E', by omega, g2, g3, g4, g5, g6, g7⟩
/-- what stands while one set goes on -/
def m_HB (m : y_m) (L R A B lw t W T c : Nat) : Prop := m_Ch m L R A B lw t ∧ m_PI m L A B lw W T (fun _ => c) ∧ m_PZ m W ∧ m_rf 0 L A B (y_mJ m 100 T) (m_hp lw L T c)
def m_Hp (T a k : Nat) : Prop := a = 92 ∨ a = 93 ∨ a = 99 ∨ (a = 100 ∧ k = T)
theorem t_261 (hW : W = c_wh L R t) (hT : ∀ j, T.testBit j = true → W.testBit j = true) (hlast : T.testBit last = true) (hls : last ≠ n_low T) (hp2 : 2 ≤ n_pop T) (hv : y_mJ m 99 (m_ix T last i f) ≠ -1) (hH : m_HB m L R A B lw t W T (last * 4 + 2 * i.toNat + f.toNat)) : ∃ m', y_V sp ph (d + 7) 261 [y_bo 11 0 49, y_bi (T : Int), y_bi (n_low T : Int), y_bi (last : Int), y_bi (n_b i), y_bi (n_b f), y_bi (W : Int)] m = y_rV m' ∧ q_F (m_Hp T) m m' ∧ m_HB m' L R A B lw t W T (last * 4 + 2 * i.toNat + f.toNat + 1) := by
  obtain ⟨hc, hI, hZ, hJ⟩ := hH
  have hcc := hc
  obtain ⟨g0, g1, gA, gB, g4, g6, hlw, ht4, hR, hB⟩ := hcc
  have hB' := hB
  obtain ⟨b1, b2, b3, b4, b5, b6, _⟩ := hB'
  have hWl := c_wh_lt (t := t) b1 b2
  have hT4 : T < 4096 := by have := m_sub_le hT; omega
  have hinT : ∀ j, T.testBit j = true → j < L + R := fun j hj => by have := hT j hj; rw [hW] at this; exact c_wh_in this
  have lo := w_low hT4 (m_nz hlast)
  have hlt := hinT _ hlast
  have hlo := hinT _ lo.2.2.1
  have hpT := n_pop_le hT4
  have hlr := m_lt_rm hlast
  have hls' : n_low T < last := by
    rcases Nat.lt_or_ge (n_low T) last with q | q
    · exact q
    · rw [lo.2.2.2 last (by omega) (by omega)] at hlast; cases hlast
  have hvrf : m_rf 0 L A B (y_mJ m 99 (m_ix T last i f)) (m_c lw (r_x L) (n_low T) (n_pop T - 2) last (m_rs T last) i f) := by
    refine m_rf_congr (hI T last hT hlast hls i f) (fun E => ?_)
    constructor
    · rintro (g | ⟨g, _⟩)
      · exact g.2
      · omega
    · intro g; exact Or.inl ⟨hlr, g⟩
  have t258 := t_258 (sp := sp) (ph := ph) (d := d + 5) (m := m) (S := T) (hole := last) (i := i) (f := f)
  have t211 := t_211 (sp := sp) (ph := ph) (d := d + 4) (m := m) (x := last) (y := n_low T) g0 b1 (by omega) (by omega)
  have t201 := t_201 (sp := sp) (ph := ph) (d := d + 5) (m := m) hT4
  have t227a := t_227 (sp := sp) (ph := ph) (d := d + 5) (m := m) (i := i) (o := r_x L last (n_low T)) g4 hlw
  have t227b := t_227 (sp := sp) (ph := ph) (d := d + 5) (m := m) (i := r_x L last (n_low T)) (o := f) g4 hlw
  have t212 := t_212 (sp := sp) (ph := ph) (d := d + 3) (m := m) (x := last) (y := n_low T) (R := R) g0 gA gB b1 b2 hlt hlo b4 b6
  have ixl := m_ix_lt (i := i) (f := f) hT4 (show last < 12 by omega)
  have key : ∀ (w : Nat) (r : y_Rs), w < 196608 → y_g (0 ≤ (w : Int) ∧ (w : Int) < (196608 : Int)) r = r := fun w r h => e_g ⟨by omega, by omega⟩
  have key4 : ∀ (r : y_Rs), y_g (0 ≤ (T : Int) ∧ (T : Int) < (4096 : Int)) r = r := fun r => e_g ⟨by omega, by omega⟩
  have ixT : m_ix T last i f < (T + 1) * 48 := by rw [m_ix_eq]; cases i <;> cases f <;> simp <;> omega
  -- the going on behind the home
  have go : ∀ m1 : y_m, q_F (fun a k => a = 92 ∨ a = 93 ∨ (a = 100 ∧ k = T)) m m1 → m_rf 0 L A B (y_mJ m1 100 T) (m_hp lw L T (last * 4 + 2 * i.toNat + f.toNat + 1)) → ∃ m', y_R sp ph (d + 6) 261 111 [some (y_bo 11 0 49), some (y_bi (T : Int)), some (y_bi (n_low T : Int)), some (y_bi (last : Int)), some (y_bi (n_b i)), some (y_bi (n_b f)), some (y_bi (W : Int)), some (y_bl (y_mJ m 99 (m_ix T last i f))), none, none, none, none] [] m1 = y_rV m' ∧ q_F (m_Hp T) m m' ∧ m_HB m' L R A B lw t W T (last * 4 + 2 * i.toNat + f.toNat + 1) := by
    intro m1 F1 hJ1
    have e99 : ∀ k, y_mJ m1 99 k = y_mJ m 99 k := fun k => q_F_J F1 99 k (by omega)
    have hc1 := m_Ch_F hc F1 (fun a k q => by unfold q_wr; omega)
    obtain ⟨m2, c1, c2, c3, c4⟩ := l_261 (sp := sp) (ph := ph) (d := d) hW hT hlast hls hp2 hv (L + R - (n_low T + 1)) (n_low T + 1) m1 (by omega) (by omega) hc1 (e99 _).symm (fun U hole hU hb hl o h => by
      have := hI U hole hU hb hl o h
      have hU4 : U < 4096 := by have := m_sub_le hU; omega
      rw [e99]
      dsimp only at this ⊢
      by_cases q : hole < n_low T + 1
      · rw [if_pos q]
        refine m_rf_congr this (fun E => (m_pp_same hU4 hb hl (Or.inl (fun e => ?_))).symm)
        have a := n_low_rm hU4 hb hl
        rw [e] at a
        have loU := w_low hU4 (m_nz hb)
        rcases Nat.lt_or_ge hole (n_low T) with r | r
        · rw [loU.2.2.2 hole (by omega) (by omega)] at hb; cases hb
        · omega
      · rw [if_neg q]; exact this)
    refine ⟨m2, ?_, q_F_trans (q_F_mono F1 (fun a k q => by unfold m_Hp; omega)) (q_F_mono c2 (fun a k q => by unfold m_Hp; omega)), m_Ch_F hc1 c2 (fun a k q => by unfold q_wr; omega), c3, c4 (fun U hole o h hU hh hno => by rw [e99]; exact hZ U hole o h hU hh hno), ?_⟩
    · rw [y_E_261_111, show (n_low T : Int) + 1 = ((n_low T + 1 : Nat) : Int) by omega]
      exact c1
    · rw [q_F_J c2 100 T (by omega)]; exact hJ1
  have same : (¬ (3 ≤ n_pop T ∧ r_may lw i (r_x L last (n_low T)) = true ∧ r_may lw (r_x L last (n_low T)) f = true)) → m_rf 0 L A B (y_mJ m 100 T) (m_hp lw L T (last * 4 + 2 * i.toNat + f.toNat + 1)) := fun hno => m_rf_congr hJ (fun E => by
    rw [m_hp_succ]
    exact ⟨Or.inl, fun g => g.elim id (fun ⟨x1, _, _, x2, x3, _⟩ => absurd ⟨x1, x2, x3⟩ hno)⟩)
  rw [y_C_261, y_E_261_0, t258, e_bI, key _ _ ixl, Int.toNat_natCast, t211, e_bI, t201, e_bI]
  by_cases p3 : 3 ≤ n_pop T
  · rw [if_neg (by rw [z_w_id (by omega) (by omega)]; omega), t227a, e_bI]
    cases c1 : r_may lw i (r_x L last (n_low T))
    · rw [if_pos (by decide)]
      exact go m q_F_refl (same (fun q => by rw [c1] at q; exact absurd q.2.1 (by decide)))
    · rw [if_neg (by decide), t227b, e_bI]
      cases c2 : r_may lw (r_x L last (n_low T)) f
      · rw [if_pos (by decide)]
        exact go m q_F_refl (same (fun q => by rw [c2] at q; exact absurd q.2.2 (by decide)))
      · rw [if_neg (by decide), t212, e_bL, key4]
        have hQ : ∀ E, (∃ E', m_c lw (r_x L) (n_low T) (n_pop T - 2) last (m_rs T last) i f E' ∧ E = w_e last (n_low T) :: E') → m_E L R E := fun E g => by
          obtain ⟨E', g7, g8⟩ := g
          exact (m_rx_E hT4 hinT p3 (m_hp_rx (m_hp_succ.mpr (Or.inr ⟨p3, hlast, hls, c1, c2, E', g7, g8⟩)))).1
        have hP : ∀ E, m_hp lw L T (last * 4 + 2 * i.toNat + f.toNat) E → m_E L R E := fun E g => (m_rx_E hT4 hinT p3 (m_hp_rx g)).1
        have hw := m_rf_cons (a := last) (b := n_low T) hvrf
        rw [if_neg hv] at hw
        have wb := m_rf_b hB hQ hw
        have wne : y_mJ m 99 (m_ix T last i f) + (r_code L A B last (n_low T) : Int) ≠ -1 := by
          rcases hvrf with ⟨q, _⟩ | ⟨E, _, q, _⟩
          · exact absurd q hv
          · omega
        have cb := m_rf_b hB hP hJ
        have hor := m_rf_or hB (by omega) hP hQ hJ hw
        have hor2 : m_rf 0 L A B (if m_tk A B 0 (y_mJ m 99 (m_ix T last i f) + (r_code L A B last (n_low T) : Int)) (y_mJ m 100 T) then y_mJ m 99 (m_ix T last i f) + (r_code L A B last (n_low T) : Int) else y_mJ m 100 T) (m_hp lw L T (last * 4 + 2 * i.toNat + f.toNat + 1)) := m_rf_congr hor (fun E => by
          rw [m_hp_succ]
          exact ⟨fun g => g.elim Or.inl (fun g => Or.inr ⟨p3, hlast, hls, c1, c2, g⟩), fun g => g.elim Or.inl (fun ⟨_, _, _, _, _, g⟩ => Or.inr g)⟩)
        have lc : (z_w (z_lcmp (y_mJ m 100 T) (-1)) = 0) = (y_mJ m 100 T = -1) := n_lc_eq (by omega) (by omega) (by omega) (by omega)
        rcases t_tkb (sp := sp) (ph := ph) (d := d + 2) (m := m) (what := 0) hR (by omega) wb.1 wb.2 cb.1 cb.2 with ⟨q, _⟩ | ⟨q1, q2, q3⟩ | ⟨q1, q2, m1, q3, q4⟩
        · exact absurd q wne
        · rw [if_pos (by rw [Int.toNat_natCast, lc]; exact q2), y_E_261_99, y_E_261_110, key4, Int.toNat_natCast]
          rw [q3] at hor2
          refine go _ (q_F_sJ (Or.inr (Or.inr ⟨rfl, rfl⟩))) ?_
          rw [e_JJ]; exact hor2
        · have q3' : y_V sp ph (d + 6) 219 [y_bo 11 0 49, y_bl (y_mJ m 99 (m_ix T last i f) + (r_code L A B last (n_low T) : Int)), y_bl (y_mJ m 100 T), y_bi 0] m = _ := q3
          rw [if_neg (by rw [Int.toNat_natCast, lc]; exact q2), key4, Int.toNat_natCast, q3', e_bI]
          have F1 : q_F (fun a k => a = 92 ∨ a = 93 ∨ (a = 100 ∧ k = T)) m m1 := q_F_mono q4 (fun a k q => by unfold m_9 at q; omega)
          cases k : m_tk A B 0 (y_mJ m 99 (m_ix T last i f) + (r_code L A B last (n_low T) : Int)) (y_mJ m 100 T)
          · rw [k] at hor2
            rw [if_pos (by decide), y_E_261_104, key4, Int.toNat_natCast, y_E_261_110, key4, Int.toNat_natCast]
            refine go _ (q_F_trans F1 (q_F_sJ (Or.inr (Or.inr ⟨rfl, rfl⟩)))) ?_
            rw [e_JJ, q_F_J q4 100 T (by unfold m_9; omega)]
            exact hor2
          · rw [k] at hor2
            rw [if_neg (by decide), y_E_261_99, y_E_261_110, key4, Int.toNat_natCast]
            refine go _ (q_F_trans F1 (q_F_sJ (Or.inr (Or.inr ⟨rfl, rfl⟩)))) ?_
            rw [e_JJ]; exact hor2
  · rw [if_pos (by rw [z_w_id (by omega) (by omega)]; omega)]
    exact go m q_F_refl (same (fun q => p3 q.1))
end Home
