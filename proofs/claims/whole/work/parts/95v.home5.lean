section Home
variable {sp : Nat → Nat} {ph : Bool} {d : Nat} {m : y_m} {L R A B lw t S T U W hole last l c : Nat} {i f o h : Bool}
theorem l_260a {x1 x2 : Int} : ∀ (n k : Nat) (m : y_m), k + n = 196608 → (∀ j, j < k → y_mJ m 99 j = -1) → ∃ m', y_R sp ph d 260 12 [some (y_bo 11 0 49), some (y_bi x1), some (y_bi x2), some (y_bi (k : Int)), none, none, none] [] m = y_R sp ph d 260 36 [some (y_bo 11 0 49), some (y_bi x1), some (y_bi x2), none, none, none, none] [] m' ∧ q_F (fun a _ => a = 99) m m' ∧ ∀ j, j < 196608 → y_mJ m' 99 j = -1 := by
  intro n
  induction n with
  | zero =>
    intro k m hk hz
    have : k = 196608 := by omega
    refine ⟨m, ?_, q_F_refl, fun j hj => hz j (by omega)⟩
    rw [y_E_260_12, if_pos (by rw [z_w_id (by omega) (by omega), z_w_id (by omega) (by omega)]; omega)]
  | succ n ih =>
    intro k m hk hz
    have key : ∀ (w : Nat) (r : y_Rs), w < 196608 → y_g (0 ≤ (w : Int) ∧ (w : Int) < (196608 : Int)) r = r := fun w r h => e_g ⟨by omega, by omega⟩
    have F1 : q_F (fun a _ => a = 99) m (y_sJ m 99 k (-1)) := q_F_sJ rfl
    obtain ⟨m2, c1, c2, c3⟩ := ih (k + 1) (y_sJ m 99 k (-1)) (by omega) (fun j hj => by
      by_cases q : j = k
      · subst q; rw [e_JJ]
      · rw [e_JJ' (by omega)]; exact hz j (by omega))
    refine ⟨m2, ?_, q_F_trans F1 c2, c3⟩
    rw [y_E_260_12, if_neg (by rw [z_w_id (by omega) (by omega), z_w_id (by omega) (by omega)]; omega), key _ _ (by omega), Int.toNat_natCast, show (k : Int) + 1 = ((k + 1 : Nat) : Int) by omega]
    exact c1
theorem m_P0_PI (hI : m_P0 m L A B lw W T) : m_PI m L A B lw W T (fun _ => 0) := fun U hole hU hb hl o h => m_rf_congr (hI U hole hU hb hl o h) (fun E => ⟨fun g => Or.inl g, fun g => g.elim id (fun ⟨_, _, _, _, _, q, _⟩ => absurd q (Nat.not_lt_zero _))⟩)
theorem m_P0_no (hI : m_P0 m L A B lw W T) (hno : ∀ U hole, (∀ j, U.testBit j = true → W.testBit j = true) → U.testBit hole = true → hole ≠ n_low U → w_rm U hole ≠ T) : m_P0 m L A B lw W (T + 1) := fun U hole hU hb hl o h => m_rf_congr (hI U hole hU hb hl o h) (fun E => ⟨fun g => ⟨by omega, g.2⟩, fun g => ⟨by have := hno U hole hU hb hl; omega, g.2⟩⟩)
theorem m_PI_P0 (hW4 : W < 4096) (hinW : ∀ j, W.testBit j = true → j < L + R) (hp2 : 2 ≤ n_pop T) (hI : m_PI m L A B lw W T (fun _ => (L + R) * 4)) : m_P0 m L A B lw W (T + 1) := fun U hole hU hb hl o h => by
  have hU4 : U < 4096 := by have := m_sub_le hU; omega
  have hpr := n_pop_rm hU4 hb
  refine m_rf_congr (hI U hole hU hb hl o h) (fun E => ?_)
  constructor
  · rintro (g | ⟨gT, _, last, i, E', g3, g4, g5, g6, g7, g8⟩)
    · exact ⟨by omega, g.2⟩
    · refine ⟨by omega, ?_⟩
      rw [gT] at hpr
      rw [show n_pop U - 2 = (n_pop T - 2) + 1 by omega]
      exact ⟨last, i, E', g4, g5, g6, g7, g8⟩
  · rintro ⟨g1, g2⟩
    by_cases q : w_rm U hole < T
    · exact Or.inl ⟨q, g2⟩
    · have gT : w_rm U hole = T := by omega
      rw [gT] at hpr
      rw [show n_pop U - 2 = (n_pop T - 2) + 1 by omega] at g2
      obtain ⟨last, i, E', g4, g5, g6, g7, g8⟩ := g2
      have hlast := g4
      rw [m_rs_bit, Bool.and_eq_true, Bool.and_eq_true] at hlast
      have := hinW _ (hU _ hlast.1.1)
      have : i.toNat ≤ 1 := by cases i <;> decide
      have : h.toNat ≤ 1 := by cases h <;> decide
      exact Or.inr ⟨gT, hp2, last, i, E', by dsimp only; omega, g4, g5, g6, g7, g8⟩
def m_H0 (m : y_m) (L A B lw W T : Nat) : Prop := ∀ S, S < T → m_rf 0 L A B (y_mJ m 100 S) (m_hx lw L W S)
theorem l_260 (hW : W = c_wh L R t) : ∀ (n T : Nat) (m : y_m), T + n = 4096 → m_Ch m L R A B lw t → m_P0 m L A B lw W T → m_PZ m W → m_H0 m L A B lw W T → ∃ m', y_R sp ph (d + 7) 260 38 [some (y_bo 11 0 49), some (y_bi (W : Int)), some (y_bi ((L + R : Nat) : Int)), some (y_bi (T : Int)), none, none, none] [] m = y_rV m' ∧ q_F (fun a _ => a = 92 ∨ a = 93 ∨ a = 99 ∨ a = 100) m m' ∧ m_H0 m' L A B lw W 4096 := by
  intro n
  induction n with
  | zero =>
    intro T m hn hc hI hZ hH
    have : T = 4096 := by omega
    subst this
    refine ⟨m, ?_, q_F_refl, hH⟩
    rw [y_E_260_38, if_pos (by rw [z_w_id (by omega) (by omega)]; omega), y_E_260_267]
  | succ n ih =>
    intro T m hn hc hI hZ hH
    have hcc := hc
    obtain ⟨g0, g1, gA, gB, g4, g6, hlw, ht4, hR, hB⟩ := hcc
    have hWl : W < 4096 := by rw [hW]; exact c_wh_lt hB.1 hB.2.1
    have hinW : ∀ j, W.testBit j = true → j < L + R := fun j hj => by rw [hW] at hj; exact c_wh_in hj
    have hT4 : T < 4096 := by omega
    have key4 : ∀ (r : y_Rs), y_g (0 ≤ (T : Int) ∧ (T : Int) < (4096 : Int)) r = r := fun r => e_g ⟨by omega, by omega⟩
    have F1 : q_F (fun a k => a = 100 ∧ k = T) m (y_sJ m 100 T (-1)) := q_F_sJ ⟨rfl, rfl⟩
    have e99 : ∀ k, y_mJ (y_sJ m 100 T (-1)) 99 k = y_mJ m 99 k := fun k => q_F_J F1 99 k (by omega)
    have hc1 := m_Ch_F hc F1 (fun a k q => by unfold q_wr; omega)
    have hI1 : m_P0 (y_sJ m 100 T (-1)) L A B lw W T := fun U hole hU hb hl o h => by rw [e99]; exact hI U hole hU hb hl o h
    have hZ1 : m_PZ (y_sJ m 100 T (-1)) W := fun U hole o h hU hh hno => by rw [e99]; exact hZ U hole o h hU hh hno
    have hH1 : m_H0 (y_sJ m 100 T (-1)) L A B lw W T := fun S hS => by rw [e_JJ' (by omega)]; exact hH S hS
    have hbd := n_bd_le T W
    -- a set of no way
    have none' : (∀ E, ¬ m_hx lw L W T E) → (∀ U hole, (∀ j, U.testBit j = true → W.testBit j = true) → U.testBit hole = true → hole ≠ n_low U → w_rm U hole ≠ T) → ∃ m', y_R sp ph (d + 7) 260 261 [some (y_bo 11 0 49), some (y_bi (W : Int)), some (y_bi ((L + R : Nat) : Int)), some (y_bi (T : Int)), none, none, none] [] (y_sJ m 100 T (-1)) = y_rV m' ∧ q_F (fun a _ => a = 92 ∨ a = 93 ∨ a = 99 ∨ a = 100) m m' ∧ m_H0 m' L A B lw W 4096 := by
      intro hno1 hno2
      obtain ⟨m2, c1, c2, c3⟩ := ih (T + 1) _ (by omega) hc1 (m_P0_no hI1 hno2) hZ1 (fun S hS => by
        by_cases q : S = T
        · subst q; rw [e_JJ]; exact m_rf_none hno1
        · exact hH1 S (by omega))
      refine ⟨m2, ?_, q_F_trans (q_F_mono F1 (fun a k q => by omega)) c2, c3⟩
      rw [y_E_260_261, show (T : Int) + 1 = ((T + 1 : Nat) : Int) by omega]
      exact c1
    rw [y_E_260_38, if_neg (by rw [z_w_id (by omega) (by omega)]; omega), key4, Int.toNat_natCast]
    by_cases h0 : T = 0
    · have z : z_w (T : Int) = 0 := by rw [h0]; decide
      rw [if_pos z]
      refine none' (fun E g => ?_) (fun U hole hU hb hl e => ?_)
      · have := g.2.1
        rw [h0, show n_pop 0 = 0 from by decide] at this; omega
      · have hU4 : U < 4096 := by have := m_sub_le hU; omega
        have a := n_pop_rm hU4 hb
        have loU := w_low hU4 (m_nz hb)
        have : (w_rm U hole).testBit (n_low U) = true := by rw [w_rm_bit, loU.2.2.1, decide_eq_true (show n_low U ≠ hole from fun q => hl q.symm)]; rfl
        rw [e, h0] at this; simp at this
    · rw [if_neg (by rw [z_w_id (by omega) (by omega)]; omega), n_not (by omega) (by omega)]
      have lo := w_low hT4 (by omega)
      by_cases hs : n_bd T W = 0
      · rw [if_pos (by rw [hs]; decide)]
        have hT := n_bd_0.mp hs
        have t257 := t_257 (sp := sp) (ph := ph) (d := d + 6) (m := y_sJ m 100 T (-1)) hT4 (by omega)
        have t201 := t_201 (sp := sp) (ph := ph) (d := d + 6) (m := y_sJ m 100 T (-1)) hT4
        have hpT := n_pop_le hT4
        have hp0 := n_pop_pos hT4 h0
        have el : (n_low T : Int) + 1 = ((n_low T + 1 : Nat) : Int) := by omega
        rw [y_E_260_69, t257, e_bI, t201, e_bI]
        by_cases p1 : n_pop T = 1
        · rw [if_neg (by rw [z_w_id (by omega) (by omega)]; omega), el]
          obtain ⟨m1, a1, a2, a3, a4, a5⟩ := l_260s (sp := sp) (ph := ph) (d := d) hW hT p1 (L + R - (n_low T + 1)) (n_low T + 1) (y_sJ m 100 T (-1)) (by have := hinW _ (hT _ lo.2.2.1); omega) (by omega) hc1 (fun U hole hU hb hl o h => m_rf_congr (hI1 U hole hU hb hl o h) (fun E => by
            have hU4 : U < 4096 := by have := m_sub_le hU; omega
            constructor
            · rintro ⟨g1, g2⟩; exact ⟨Or.inl g1, g2⟩
            · rintro ⟨g1 | ⟨g1, g3⟩, g2⟩
              · exact ⟨g1, g2⟩
              · exfalso
                have a := n_low_rm hU4 hb hl
                rw [g1] at a
                have loU := w_low hU4 (m_nz hb)
                rcases Nat.lt_or_ge hole (n_low T) with r | r
                · rw [loU.2.2.2 hole (by omega) (by omega)] at hb; cases hb
                · omega)) hZ1
          obtain ⟨m2, c1, c2, c3⟩ := ih (T + 1) m1 (by omega) a3 (fun U hole hU hb hl o h => m_rf_congr (a4 U hole hU hb hl o h) (fun E => by
            constructor
            · rintro ⟨g1 | ⟨g1, g3⟩, g2⟩
              · exact ⟨by omega, g2⟩
              · exact ⟨by omega, g2⟩
            · rintro ⟨g1, g2⟩
              rcases Nat.lt_or_ge (w_rm U hole) T with r | r
              · exact ⟨Or.inl r, g2⟩
              · exact ⟨Or.inr ⟨by omega, hinW _ (hU _ hb)⟩, g2⟩)) a5 (fun S hS => by
            rw [q_F_J a2 100 S (by omega)]
            by_cases q : S = T
            · subst q; rw [e_JJ]; exact m_rf_none (fun E g => by have := g.2.1; omega)
            · exact hH1 S (by omega))
          refine ⟨m2, ?_, q_F_trans (q_F_mono F1 (fun a k q => by omega)) (q_F_trans (q_F_mono a2 (fun a k q => by omega)) c2), c3⟩
          rw [a1, y_E_260_261, show (T : Int) + 1 = ((T + 1 : Nat) : Int) by omega]
          exact c1
        · rw [if_pos (by rw [z_w_id (by omega) (by omega)]; omega), y_E_260_152, el]
          have hlow : ∀ last, (w_rm T (n_low T)).testBit last = true → n_low T < last := fun last q => by
            rw [w_rm_bit, Bool.and_eq_true] at q
            have q2 := of_decide_eq_true q.2
            rcases Nat.lt_or_ge last (n_low T) with r | r
            · rw [lo.2.2.2 last (by omega) (by omega)] at q; exact absurd q.1 (by decide)
            · omega
          obtain ⟨m1, a1, a2, a3, a4, a5, a6⟩ := l_260g (sp := sp) (ph := ph) (d := d) hW hT (by omega) (L + R - (n_low T + 1)) (n_low T + 1) (y_sJ m 100 T (-1)) (by have := hinW _ (hT _ lo.2.2.1); omega) ⟨hc1, fun U hole hU hb hl o h => m_rf_congr (m_P0_PI hI1 U hole hU hb hl o h) (fun E => by
            have hU4 : U < 4096 := by have := m_sub_le hU; omega
            constructor
            · rintro (g | ⟨_, _, _, _, _, q, _⟩)
              · exact Or.inl g
              · exact absurd q (Nat.not_lt_zero _)
            · rintro (g | ⟨gT, _, last, i, E', g3, g4, _⟩)
              · exact Or.inl g
              · rw [(m_up_low hU4 hb hl gT).2] at g4
                have := hlow last g4
                dsimp only at g3
                omega), hZ1, by
            rw [e_JJ]
            refine m_rf_none (fun E g => ?_)
            obtain ⟨_, last, i, h, E', q1, q2, q3, _⟩ := g
            have := hlow last (by rw [w_rm_bit, q2, decide_eq_true q3]; rfl)
            omega⟩
          obtain ⟨m2, c1, c2, c3⟩ := ih (T + 1) m1 (by omega) a3 (m_PI_P0 hWl hinW (by omega) a4) a5 (fun S hS => by
            by_cases q : S = T
            · subst q
              refine m_rf_congr a6 (fun E => ?_)
              constructor
              · intro g; exact ⟨hT, g.1, m_hp_rx g⟩
              · intro g; exact m_rx_hp g.2.1 (fun j hj => by have := hinW _ (hT _ hj); omega) g.2.2
            · rw [q_F_J a2 100 S (by unfold m_Hp; omega)]
              exact hH1 S (by omega))
          refine ⟨m2, ?_, q_F_trans (q_F_mono F1 (fun a k q => by omega)) (q_F_trans (q_F_mono a2 (fun a k q => by unfold m_Hp at q; omega)) c2), c3⟩
          rw [a1, y_E_260_261, show (T : Int) + 1 = ((T + 1 : Nat) : Int) by omega]
          exact c1
      · rw [if_neg (by rw [z_w_id (by omega) (by omega)]; omega)]
        refine none' (fun E g => hs (n_bd_0.mpr g.1)) (fun U hole hU hb hl e => hs (n_bd_0.mpr (fun j hj => ?_)))
        rw [← e, w_rm_bit, Bool.and_eq_true] at hj
        exact hU j hj.1
theorem t_260 (hc : m_Ch m L R A B lw t) : ∃ m', y_V sp ph (d + 8) 260 [y_bo 11 0 49] m = y_rV m' ∧ q_F (fun a _ => a = 92 ∨ a = 93 ∨ a = 99 ∨ a = 100) m m' ∧ ∀ S, S < 4096 → m_rf 0 L A B (y_mJ m' 100 S) (m_hx lw L (c_wh L R t) S) := by
  have hcc := hc
  obtain ⟨g0, g1, gA, gB, g4, g6, hlw, ht4, hR, hB⟩ := hcc
  have t200 := t_200 (sp := sp) (ph := ph) (d := d + 5) (m := m) g0 g1 g6 hB.1 hB.2.1 ht4
  have t199 := t_199 (sp := sp) (ph := ph) (d := d + 6) (m := m)
  obtain ⟨m1, a1, a2, a3⟩ := l_260a (sp := sp) (ph := ph) (d := d + 7) (x1 := (c_wh L R t : Int)) (x2 := ((L + R : Nat) : Int)) 196608 0 m (by omega) (fun j hj => absurd hj (Nat.not_lt_zero _))
  have hc1 := m_Ch_F hc a2 (fun a k q => by unfold q_wr; omega)
  have cell : ∀ U hole o h, U < 4096 → hole < 12 → y_mJ m1 99 (m_ix U hole o h) = -1 := fun U hole o h hU hh => a3 _ (m_ix_lt hU hh)
  have hWl := c_wh_lt (t := t) hB.1 hB.2.1
  obtain ⟨m2, c1, c2, c3⟩ := l_260 (sp := sp) (ph := ph) (d := d) (W := c_wh L R t) rfl 4096 0 m1 (by omega) hc1 (fun U hole hU hb hl o h => by
    have hU4 : U < 4096 := by have := m_sub_le hU; omega
    have hh : hole < 12 := by
      have := c_wh_in (hU _ hb)
      have := hB.1
      have := hB.2.1
      omega
    rw [cell U hole o h hU4 hh]
    exact m_rf_none (fun E g => absurd g.1 (Nat.not_lt_zero _))) (fun U hole o h hU hh _ => cell U hole o h hU hh) (fun S hS => absurd hS (Nat.not_lt_zero _))
  refine ⟨m2, ?_, q_F_trans (q_F_mono a2 (fun a k q => by omega)) c2, c3⟩
  have a1' : y_R sp ph (d + 7) 260 12 [some (y_bo 11 0 49), some (y_bi (c_wh L R t : Int)), some (y_bi ((L + R : Nat) : Int)), some (y_bi 0), none, none, none] [] m = _ := a1
  have c1' : y_R sp ph (d + 7) 260 38 [some (y_bo 11 0 49), some (y_bi (c_wh L R t : Int)), some (y_bi ((L + R : Nat) : Int)), some (y_bi 0), none, none, none] [] m1 = _ := c1
  rw [y_C_260, y_E_260_0, t200, e_bI, t199, e_bI, g0, g1, show (L : Int) + (R : Int) = ((L + R : Nat) : Int) by omega]
  refine (show _ = _ from a1').trans ?_
  rw [y_E_260_36]
  exact c1'
end Home
