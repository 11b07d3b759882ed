section Two
variable {sp : Nat → Nat} {ph : Bool} {d : Nat} {m : y_m} {L R A B t lw X T W c : Nat} {w : List Nat}
theorem l_155 (hW : W = c_wh L R t) (hU : u_C m L R A B t lw X w) (hM : ∀ T, T < 4096 → m_is (y_mJ m 10 T) (m_P 0 L A B (m_hx lw L (c_wh L R t) T))) {half : Nat} (hh : half ≤ 12) : ∀ (n l : Nat) (r least : Int), l + n = W + 1 → (r = -1 ∨ ∃ o : Nat, r = o ∧ o ≤ W ∧ n_bd o W = 0 ∧ m_s2 (y_mJ m 10) W o ≠ m_F ∧ least = m_s2 (y_mJ m 10) W o) → y_R sp ph (d + 4) 155 40 [some (y_bo 10 0 0), some (y_bi (W : Int)), some (y_bi (half : Int)), some (y_bi r), some (y_bl least), none, some (y_bi (l : Int)), none, none] [] m = y_rI (m_co W half (fun c => decide (m_s2 (y_mJ m 10) W c ≠ m_F)) (fun c o => decide (m_s2 (y_mJ m 10) W c + 64 < m_s2 (y_mJ m 10) W o)) n l r) m := by
  have hB := hU.2.2.1.1
  have hWl : W < 4096 := by rw [hW]; exact c_wh_lt hB.1 hB.2.1
  intro n
  induction n with
  | zero =>
    intro l r least hn hr
    rw [m_co, y_E_155_40, if_pos (by rw [z_w_id (by omega) (by omega), z_w_id (by omega) (by omega)]; omega), y_E_155_109]
  | succ n ih =>
    intro l r least hn hr
    have e1 : (l : Int) + 1 = ((l + 1 : Nat) : Int) := by omega
    have hl4 : l < 4096 := by omega
    have hpl := n_pop_le hl4
    have s1 := s_1 (sp := sp) (ph := ph) (d := d + 3) (m := m) hl4
    have hbd := n_bd_le l W
    have en1 : z_iand (l : Int) (z_ixor (W : Int) (-1)) = ((n_bd l W : Nat) : Int) := n_not (by omega) (by omega)
    have s175 := s_175 (sp := sp) (ph := ph) (d := d + 1) (m := m) hU hl4 hM
    rw [← hW] at s175
    have i2 := m_s2_is (c := l) hB (by rw [← hW]; exact hWl) (fun j hj => c_wh_in hj) hl4 hM
    rw [← hW] at i2
    have lc : (z_w (z_lcmp (m_s2 (y_mJ m 10) W l) 9223372036854775807) = 0) = (m_s2 (y_mJ m 10) W l = m_F) := by
      by_cases q : m_s2 (y_mJ m 10) W l = m_F
      · rw [q]; exact propext ⟨fun _ => rfl, fun _ => by decide⟩
      · have := i2.2 q
        exact n_lc_eq (by omega) (by omega) (by omega) (by omega)
    rw [m_co, y_E_155_40, if_neg (by rw [z_w_id (by omega) (by omega), z_w_id (by omega) (by omega)]; omega), en1]
    by_cases z : n_bd l W = 0
    · rw [if_neg (by rw [z]; decide), s1, e_bI]
      by_cases p : n_pop l = half
      · rw [if_neg (by rw [z_w_id (by omega) (by omega), z_w_id (by omega) (by omega)]; omega), s175, e_bL]
        by_cases q : m_s2 (y_mJ m 10) W l = m_F
        · rw [if_pos (by rw [lc]; exact q), y_E_155_103, e1, ih (l + 1) r least (by omega) hr, if_neg (fun c => (of_decide_eq_true c.2.2.1) q)]
        · have b2 := i2.2 q
          have dq : decide (m_s2 (y_mJ m 10) W l ≠ m_F) = true := decide_eq_true q
          rw [if_neg (by rw [lc]; exact q)]
          rcases hr with h | ⟨o, h1, h2, h3, h4, h5⟩
          · have zr : z_w r = -1 := by rw [h]; decide
            rw [if_pos zr, y_E_155_96, y_E_155_103, e1, ih (l + 1) l _ (by omega) (Or.inr ⟨l, rfl, by omega, z, q, rfl⟩), if_pos ⟨z, p, dq, Or.inl h⟩]
          · have zr : ¬ z_w r = -1 := by rw [h1, z_w_id (by omega) (by omega)]; omega
            have io := m_s2_is (c := o) hB (by rw [← hW]; exact hWl) (fun j hj => c_wh_in hj) (by omega) hM
            rw [← hW] at io
            have bo := io.2 h4
            have s56 := s_56 (sp := sp) (ph := ph) (d := d + 3) (m := m) (x := m_s2 (y_mJ m 10) W l) (y := least) (by omega) (by omega) (by omega) (by omega)
            rw [if_neg zr, s56, e_bI]
            have er : r.toNat = o := by rw [h1, Int.toNat_natCast]
            by_cases c : m_s2 (y_mJ m 10) W l + 64 < least
            · rw [decide_eq_true c, if_neg (by decide), y_E_155_96, y_E_155_103, e1, ih (l + 1) l _ (by omega) (Or.inr ⟨l, rfl, by omega, z, q, rfl⟩), if_pos ⟨z, p, dq, Or.inr (by rw [er]; exact decide_eq_true (by omega))⟩]
            · rw [decide_eq_false c, if_pos (by decide), y_E_155_103, e1, ih (l + 1) r least (by omega) (Or.inr ⟨o, h1, h2, h3, h4, h5⟩), if_neg (fun k => ?_)]
              rcases k.2.2.2 with k | k
              · omega
              · rw [er] at k
                have := of_decide_eq_true k
                omega
      · rw [if_pos (by rw [z_w_id (by omega) (by omega), z_w_id (by omega) (by omega)]; omega), y_E_155_103, e1, ih (l + 1) r least (by omega) hr, if_neg (fun c => p c.2.1)]
    · rw [if_pos (by rw [z_w_id (by omega) (by omega)]; omega), y_E_155_103, e1, ih (l + 1) r least (by omega) hr, if_neg (fun c => z c.1)]
def m_col (tr : Nat → Int) (W : Nat) : Int := m_co W (n_pop W / 2) (fun c => decide (m_s2 tr W c ≠ m_F)) (fun c o => decide (m_s2 tr W c + 64 < m_s2 tr W o)) (W + 1) 0 (-1)
theorem s_155 (hU : u_C m L R A B t lw X w) : ∃ tr m', (∀ T, T < 4096 → m_is (tr T) (m_P 0 L A B (m_hx lw L (c_wh L R t) T))) ∧ y_V sp ph (d + 7) 155 [y_bo 10 0 0] m = y_rI (m_col tr (c_wh L R t)) m' ∧ q_F m_Fq m m' ∧ u_C m' L R A B t lw X w := by
  have hB := hU.2.2.1.1
  have hWl := c_wh_lt (t := t) hB.1 hB.2.1
  have hpl := n_pop_le hWl
  obtain ⟨m1, a1, a2, a3, a4⟩ := u_109 (sp := sp) (ph := ph) (d := d) hU
  have hK1 := a3.1
  have s41 := s_41 (sp := sp) (ph := ph) (d := d + 4) (m := m1) (a := y_mc m1) hK1.eL hK1.eR hK1.et hK1.l6 hK1.r6 hK1.t4
  have s41' : y_V sp ph (d + 6) 41 [y_bo 0 0 (y_mc m1)] m1 = y_rI (c_wh L R t : Int) m1 := s41
  have s1 := s_1 (sp := sp) (ph := ph) (d := d + 5) (m := m1) hWl
  have l := l_155 (sp := sp) (ph := ph) (d := d + 2) (W := c_wh L R t) rfl a3 a4 (half := n_pop (c_wh L R t) / 2) (by omega) (c_wh L R t + 1) 0 (-1) 9223372036854775807 (by omega) (Or.inl rfl)
  refine ⟨y_mJ m1 10, m1, a4, ?_, a2, a3⟩
  have eh : z_idiv (n_pop (c_wh L R t) : Int) 2 = ((n_pop (c_wh L R t) / 2 : Nat) : Int) := by rw [n_idiv (by omega) (by omega) (by omega) (by omega)]; omega
  rw [y_C_155, y_E_155_0, a1, e_bV, s41', e_bI, s1, e_bI, eh]
  exact l
theorem l_266 (hW : W = c_wh L R t) {half : Nat} (hh : half ≤ 12) : ∀ (n l : Nat) (r : Int) (m : y_m), l + n = W + 1 → m_Hm m L R A B lw t → (r = -1 ∨ ∃ o : Nat, r = o ∧ o ≤ W ∧ n_bd o W = 0 ∧ m_r2 (y_mJ m 100) W o ≠ -1) → ∃ m', y_R sp ph (d + 4) 266 26 [some (y_bo 11 0 49), some (y_bi (W : Int)), some (y_bi (half : Int)), some (y_bi r), some (y_bi (l : Int))] [] m = y_rI (m_co W half (fun c => decide (m_r2 (y_mJ m 100) W c ≠ -1)) (fun c o => q_bt A B 0 (m_r2 (y_mJ m 100) W c).toNat (m_r2 (y_mJ m 100) W o).toNat) n l r) m' ∧ q_F m_9 m m' := by
  intro n
  induction n with
  | zero =>
    intro l r m hn hH hr
    have hB := hH.1.2.2.2.2.2.2.2.2.2
    have hWl : W < 4096 := by rw [hW]; exact c_wh_lt hB.1 hB.2.1
    refine ⟨m, ?_, q_F_refl⟩
    rw [m_co, y_E_266_26, if_pos (by rw [z_w_id (by omega) (by omega), z_w_id (by omega) (by omega)]; omega), y_E_266_120]
  | succ n ih =>
    intro l r m hn hH hr
    have hB := hH.1.2.2.2.2.2.2.2.2.2
    have hWl : W < 4096 := by rw [hW]; exact c_wh_lt hB.1 hB.2.1
    have hinW : ∀ j, W.testBit j = true → j < L + R := fun j hj => by rw [hW] at hj; exact c_wh_in hj
    have e1 : (l : Int) + 1 = ((l + 1 : Nat) : Int) := by omega
    have hl4 : l < 4096 := by omega
    have hpl := n_pop_le hl4
    have t201 := t_201 (sp := sp) (ph := ph) (d := d + 3) (m := m) hl4
    have hbd := n_bd_le l W
    have hbd2 := n_bd_le W l
    have en1 : z_iand (l : Int) (z_ixor (W : Int) (-1)) = ((n_bd l W : Nat) : Int) := n_not (by omega) (by omega)
    have en2 : ∀ c : Nat, c < 4096 → z_iand (W : Int) (z_ixor (c : Int) (-1)) = ((n_bd W c : Nat) : Int) := fun c hc => n_not (by omega) (by omega)
    have key : ∀ (w : Nat) (r : y_Rs), w < 4096 → y_g (0 ≤ (w : Int) ∧ (w : Int) < (4096 : Int)) r = r := fun w r h => e_g ⟨by omega, by omega⟩
    have t264 := t_264 (sp := sp) (ph := ph) (d := d + 1) hH hl4
    rw [← hW] at t264
    rw [m_co, y_E_266_26, if_neg (by rw [z_w_id (by omega) (by omega), z_w_id (by omega) (by omega)]; omega), en1]
    by_cases z : n_bd l W = 0
    · rw [if_neg (by rw [z]; decide), t201, e_bI]
      by_cases p : n_pop l = half
      · rw [if_neg (by rw [z_w_id (by omega) (by omega), z_w_id (by omega) (by omega)]; omega), t264, e_bI]
        by_cases q : m_r2 (y_mJ m 100) W l = -1
        · obtain ⟨m2, a1, a2⟩ := ih (l + 1) r m (by omega) hH hr
          refine ⟨m2, ?_, a2⟩
          rw [decide_eq_false (show ¬ (m_r2 (y_mJ m 100) W l ≠ -1) from fun k => k q), if_neg (by decide), y_E_266_114, e1, a1, if_neg (fun c => absurd c.2.2.1 (by decide))]
        · have dq : decide (m_r2 (y_mJ m 100) W l ≠ -1) = true := decide_eq_true q
          rw [if_pos (by rw [dq]; decide), y_E_266_62]
          rcases hr with h | ⟨o, h1, h2, h3, h4⟩
          · obtain ⟨m2, a1, a2⟩ := ih (l + 1) l m (by omega) hH (Or.inr ⟨l, rfl, by omega, z, q⟩)
            have zr : z_w r = -1 := by rw [h]; decide
            refine ⟨m2, ?_, a2⟩
            rw [if_pos zr, y_E_266_111, y_E_266_114, e1, a1, if_pos ⟨z, p, dq, Or.inl h⟩]
          · have zr : ¬ z_w r = -1 := by rw [h1, z_w_id (by omega) (by omega)]; omega
            have er : r.toNat = o := by rw [h1, Int.toNat_natCast]
            have hbo := n_bd_le W o
            have sum : ∀ c, m_r2 (y_mJ m 100) W c ≠ -1 → y_mJ m 100 c + y_mJ m 100 (n_bd W c) = m_r2 (y_mJ m 100) W c := fun c hc => by
              unfold m_r2 at hc ⊢
              by_cases k : y_mJ m 100 c = -1 ∨ y_mJ m 100 (n_bd W c) = -1
              · rw [if_pos k] at hc; exact absurd rfl hc
              · rw [if_neg k]
            have bnd : ∀ c, c < 4096 → n_bd c W = 0 → -1 ≤ m_r2 (y_mJ m 100) W c ∧ m_r2 (y_mJ m 100) W c < 167772160000 := fun c hc hz => by
              have := m_r2_rf hB hWl hinW (n_bd_0.mp hz) (fun T hT => by have := hH.2 T hT; rw [← hW] at this; exact this)
              exact m_rf_b hB (fun E g => (m_p2_E hWl hinW (n_bd_0.mp hz) g).1) this
            have bl := bnd l hl4 z
            have bo := bnd o (by omega) h3
            obtain ⟨m1, c1, c2⟩ := t_219 (sp := sp) (ph := ph) (d := d) (m := m) (x := (m_r2 (y_mJ m 100) W l).toNat) (y := (m_r2 (y_mJ m 100) W o).toNat) (what := 0) hH.1.2.2.2.2.2.2.2.2.1 (by omega) (by omega) (by omega)
            rw [Int.toNat_of_nonneg (by omega), Int.toNat_of_nonneg (by omega)] at c1
            have c1' : y_V sp ph (d + 4) 219 [y_bo 11 0 49, y_bl (m_r2 (y_mJ m 100) W l), y_bl (m_r2 (y_mJ m 100) W o), y_bi 0] m = _ := c1
            have F1 : q_F m_9 m m1 := c2
            have e100 : y_mJ m1 100 = y_mJ m 100 := funext fun k => q_F_J F1 100 k (by unfold m_9; omega)
            have g1 : y_g (0 ≤ r ∧ r < (4096 : Int)) = fun x => x := funext fun x => e_g ⟨by omega, by omega⟩
            rw [if_neg zr, key _ _ hl4, en2 l hl4, key _ _ (by omega), h1, key _ _ (by omega), en2 o (by omega), key _ _ (by omega), Int.toNat_natCast, Int.toNat_natCast, Int.toNat_natCast, Int.toNat_natCast, sum l q, sum o h4, c1', e_bI, ← h1]
            cases b : q_bt A B 0 (m_r2 (y_mJ m 100) W l).toNat (m_r2 (y_mJ m 100) W o).toNat
            · obtain ⟨m2, a1, a2⟩ := ih (l + 1) r m1 (by omega) (m_Hm_9 hH F1) (Or.inr ⟨o, h1, h2, h3, by rw [e100]; exact h4⟩)
              refine ⟨m2, ?_, q_F_trans F1 a2⟩
              rw [if_pos (by decide), y_E_266_114, e1, a1, e100, if_neg (fun k => ?_)]
              rcases k.2.2.2 with k | k
              · omega
              · cases k
            · obtain ⟨m2, a1, a2⟩ := ih (l + 1) l m1 (by omega) (m_Hm_9 hH F1) (Or.inr ⟨l, rfl, by omega, z, by rw [e100]; exact q⟩)
              refine ⟨m2, ?_, q_F_trans F1 a2⟩
              rw [if_neg (by decide), y_E_266_111, y_E_266_114, e1, a1, e100, if_pos ⟨z, p, dq, Or.inr rfl⟩]
      · obtain ⟨m2, a1, a2⟩ := ih (l + 1) r m (by omega) hH hr
        refine ⟨m2, ?_, a2⟩
        rw [if_pos (by rw [z_w_id (by omega) (by omega), z_w_id (by omega) (by omega)]; omega), y_E_266_114, e1, a1, if_neg (fun c => p c.2.1)]
    · obtain ⟨m2, a1, a2⟩ := ih (l + 1) r m (by omega) hH hr
      refine ⟨m2, ?_, a2⟩
      rw [if_pos (by rw [z_w_id (by omega) (by omega)]; omega), y_E_266_114, e1, a1, if_neg (fun c => z c.1)]
theorem t_266 {tr : Nat → Int} (hU : u_R m L R A B t lw X w) (hM : ∀ T, T < 4096 → m_is (tr T) (m_P 0 L A B (m_hx lw L (c_wh L R t) T))) : ∃ m', y_V sp ph (d + 9) 266 [y_bo 11 0 49] m = y_rI (m_col tr (c_wh L R t)) m' ∧ q_F u_Rh m m' ∧ y_mI m' 49 0 = 0 := by
  have hF0 : q_F u_Rh m (y_sI m 49 0 0) := q_F_sI (by unfold u_Rh; omega)
  have hF00 : q_F (fun a k => a = 49 ∧ k = 0) m (y_sI m 49 0 0) := q_F_sI ⟨rfl, rfl⟩
  have hc0 := m_Ch_F hU.1 hF00 (fun a k q => by unfold q_wr; omega)
  have hB := hU.1.2.2.2.2.2.2.2.2.2
  have hWl := c_wh_lt (t := t) hB.1 hB.2.1
  have hpl := n_pop_le hWl
  obtain ⟨m1, a1, a2, a3⟩ := t_260 (sp := sp) (ph := ph) (d := d) hc0
  have hH : m_Hm m1 L R A B lw t := ⟨m_Ch_F hc0 a2 (fun a k q => by unfold q_wr; omega), a3⟩
  have e0 : y_mI m1 49 0 = 0 := by rw [q_F_I a2 49 0 (by omega), e_II]
  obtain ⟨g0, g1, _, _, _, g6, _, g7, hR, _⟩ := hH.1
  have t200 := t_200 (sp := sp) (ph := ph) (d := d + 6) (m := m1) g0 g1 g6 hB.1 hB.2.1 g7
  have t200' : y_V sp ph (d + 8) 200 [y_bo 11 0 49] m1 = y_rI (c_wh L R t : Int) m1 := t200
  have t201 := t_201 (sp := sp) (ph := ph) (d := d + 7) (m := m1) hWl
  obtain ⟨m2, b1, b2⟩ := l_266 (sp := sp) (ph := ph) (d := d + 4) (W := c_wh L R t) rfl (half := n_pop (c_wh L R t) / 2) (by omega) (c_wh L R t + 1) 0 (-1) m1 (by omega) hH (Or.inl rfl)
  have eh : z_idiv (n_pop (c_wh L R t) : Int) 2 = ((n_pop (c_wh L R t) / 2 : Nat) : Int) := by rw [n_idiv (by omega) (by omega) (by omega) (by omega)]; omega
  have hin : ∀ j, (c_wh L R t).testBit j = true → j < L + R := fun j hj => c_wh_in hj
  have lt4 : ∀ l, l ≤ c_wh L R t → l < 4096 := fun l h => by omega
  have nF : ∀ l, l ≤ c_wh L R t → n_bd l (c_wh L R t) = 0 → (m_r2 (y_mJ m1 100) (c_wh L R t) l = -1 ↔ m_s2 tr (c_wh L R t) l = m_F) := fun l hl hz => by
    rw [m_rf_F (m_r2_rf hB hWl hin (n_bd_0.mp hz) a3), m_is_F (m_s2_is hB hWl hin (lt4 l hl) hM).1]
    exact ⟨fun h x hx => by obtain ⟨E, g, _⟩ := hx; exact h E g, fun h E g => h _ ⟨E, g, rfl⟩⟩
  have ec := m_co_congr (W := c_wh L R t) (half := n_pop (c_wh L R t) / 2) (ap := fun c => decide (m_r2 (y_mJ m1 100) (c_wh L R t) c ≠ -1)) (ap' := fun c => decide (m_s2 tr (c_wh L R t) c ≠ m_F)) (bt := fun c o => q_bt A B 0 (m_r2 (y_mJ m1 100) (c_wh L R t) c).toNat (m_r2 (y_mJ m1 100) (c_wh L R t) o).toNat) (bt' := fun c o => decide (m_s2 tr (c_wh L R t) c + 64 < m_s2 tr (c_wh L R t) o)) (fun l hl hz => decide_eq_decide.mpr (not_congr (nF l hl hz))) (fun l r hl hr hz hz' ha ha' => by
    have h1 := of_decide_eq_true ha
    have h2 := of_decide_eq_true ha'
    exact m_cmp2 hB (fun E g => (m_p2_E hWl hin (n_bd_0.mp hz) g).1) (fun E g => (m_p2_E hWl hin (n_bd_0.mp hz') g).1) (m_r2_rf hB hWl hin (n_bd_0.mp hz) a3) (m_s2_is hB hWl hin (lt4 l hl) hM).1 (m_r2_rf hB hWl hin (n_bd_0.mp hz') a3) (m_s2_is hB hWl hin (lt4 r hr) hM).1 h1 h2) (c_wh L R t + 1) 0 (-1) (by omega) (Or.inl rfl)
  rw [ec] at b1
  refine ⟨m2, ?_, q_F_trans hF0 (q_F_trans (q_F_mono a2 (fun a k q => by unfold u_Rh; omega)) (q_F_mono b2 (fun a k q => by unfold m_9 at q; unfold u_Rh; omega))), by rw [q_F_I b2 49 0 (by unfold m_9; omega)]; exact e0⟩
  rw [y_C_266, y_E_266_0, a1, e_bV, t200', e_bI, t201, e_bI, eh]
  exact b1
end Two
