section Leave
variable {sp : Nat → Nat} {ph : Bool} {d : Nat} {m : y_m} {L R A B t lw X T : Nat} {w : List Nat}
def m_ts (M : Int) (X : Nat) : Int := if M = m_F then -1 else if (M + 64) * 1000 / 281474976710656 - 1000 * (X : Int) ≤ 0 then 0 else (M + 64) * 1000 / 281474976710656 - 1000 * (X : Int)
theorem m_is_lc {v : Int} (h : v = m_F ∨ (-4000000000000000000 ≤ v ∧ v ≤ 4000000000000000000)) : (z_w (z_lcmp v 9223372036854775807) = 0) = (v = m_F) := by
  rcases h with q | q
  · rw [q]; exact propext ⟨fun _ => rfl, fun _ => by decide⟩
  · exact n_lc_eq (by omega) (by omega) (by omega) (by omega)
theorem s_151 (hU : u_C m L R A B t lw X w) (hX : X ≤ 9999) : ∃ M m', m_is M (m_P 0 L A B (m_hx lw L (c_wh L R t) (c_wh L R t))) ∧ y_V sp ph (d + 7) 151 [y_bo 10 0 0] m = y_rI (m_ts M X) m' ∧ q_F m_Fq m m' ∧ u_C m' L R A B t lw X w := by
  have hB := hU.2.2.1.1
  obtain ⟨m1, a1, a2, a3, a4⟩ := u_109 (sp := sp) (ph := ph) (d := d) hU
  have hK1 := a3.1
  have hWl := c_wh_lt (t := t) hB.1 hB.2.1
  have s41 := s_41 (sp := sp) (ph := ph) (d := d + 4) (m := m1) (a := y_mc m1) hK1.eL hK1.eR hK1.et hK1.l6 hK1.r6 hK1.t4
  have s110 := s_110 (sp := sp) (ph := ph) (d := d + 4) (m := m1) hWl
  have hM := a4 _ hWl
  refine ⟨_, m1, hM, ?_, a2, a3⟩
  have hlow := fun q => m_is_low hB hWl (fun j hj => c_wh_in hj) hM q
  have lc := m_is_lc (v := y_mJ m1 10 (c_wh L R t)) (by
    by_cases q : y_mJ m1 10 (c_wh L R t) = m_F
    · exact Or.inl q
    · have := hlow q; exact Or.inr (by omega))
  have s110' : y_V sp ph (d + 6) 110 [y_bo 2 0 8, y_bi ((n_bd (2 ^ (L + R) - 1) t : Nat) : Int)] m1 = y_rL (y_mJ m1 10 (c_wh L R t)) m1 := s110
  rw [y_C_151, y_E_151_0, a1, e_bV, s41, e_bI, s110', e_bL]
  unfold m_ts
  by_cases q : y_mJ m1 10 (c_wh L R t) = m_F
  · rw [if_neg (by rw [lc]; exact fun r => r q), if_pos q]
  · have hl := hlow q
    have s58 := s_58 (sp := sp) (ph := ph) (d := d + 5) (m := m1) (x := y_mJ m1 10 (c_wh L R t)) (by omega) (by omega)
    rw [if_pos (by rw [lc]; exact q), if_neg q, y_E_151_40, s58, e_bI, hK1.eX]
    have s4 := s_4 (sp := sp) (ph := ph) (d := d + 5) (m := m1) (x := 0) (y := (y_mJ m1 10 (c_wh L R t) + 64) * 1000 / 281474976710656 - 1000 * (X : Int)) (by omega) (by omega) (by omega) (by omega)
    rw [s4, e_bI]
    by_cases c : (y_mJ m1 10 (c_wh L R t) + 64) * 1000 / 281474976710656 - 1000 * (X : Int) ≤ 0
    · rw [if_neg (by omega), if_pos c]
    · rw [if_pos (by omega), if_neg c]
theorem t_263 {M : Int} (hU : u_R m L R A B t lw X w) (hM : m_is M (m_P 0 L A B (m_hx lw L (c_wh L R t) (c_wh L R t)))) : ∃ m', y_V sp ph (d + 8) 263 [y_bo 11 0 49] m = y_rI (m_ts M X) m' ∧ q_F u_R25 m m' ∧ y_mI m' 49 0 = 0 := by
  have hF0 : q_F u_R25 m (y_sI m 49 0 0) := q_F_sI (by unfold u_R25; omega)
  have hF00 : q_F (fun a k => a = 49 ∧ k = 0) m (y_sI m 49 0 0) := q_F_sI ⟨rfl, rfl⟩
  have hc0 := m_Ch_F hU.1 hF00 (fun a k q => by unfold q_wr; omega)
  have hB := hU.1.2.2.2.2.2.2.2.2.2
  have hWl := c_wh_lt (t := t) hB.1 hB.2.1
  obtain ⟨k0, k1, kA, kB, k4, k6, klw, kt4, kR, _⟩ := hc0
  have t200 := t_200 (sp := sp) (ph := ph) (d := d + 5) (m := y_sI m 49 0 0) k0 k1 k6 hB.1 hB.2.1 kt4
  have t201 : y_V sp ph (d + 7) 201 [y_bi ((n_bd (2 ^ (L + R) - 1) t : Nat) : Int)] (y_sI m 49 0 0) = _ := t_201 (sp := sp) (ph := ph) (d := d + 6) (m := y_sI m 49 0 0) hWl
  have hpl := n_pop_le hWl
  have pl' : n_pop (n_bd (2 ^ (L + R) - 1) t) ≤ 12 := hpl
  unfold m_ts
  by_cases p3 : 3 ≤ n_pop (c_wh L R t)
  · have p3' : 3 ≤ n_pop (n_bd (2 ^ (L + R) - 1) t) := p3
    rcases t_254z (sp := sp) (ph := ph) (d := d) (m := y_sI m 49 0 0) (T := c_wh L R t) (W := c_wh L R t) rfl (m_Ch_F hU.1 hF00 (fun a k q => by unfold q_wr; omega)) (fun j hj => hj) p3 hM with ⟨q, m1, a1, a2⟩ | ⟨E, F, m1, a1, a2, hEE, hFF, f1, f2, f3, f4⟩
    · refine ⟨m1, ?_, q_F_trans hF0 (q_F_mono a2 (fun a k q => Or.inl q)), by rw [q_F_I a2 49 0 (by unfold m_25; omega), e_II]⟩
      have a1' : y_V sp ph (d + 7) 254 [y_bo 11 0 49, y_bi ((n_bd (2 ^ (L + R) - 1) t : Nat) : Int), y_bi 0] (y_sI m 49 0 0) = _ := a1
      rw [if_pos q, y_C_263, y_E_263_0, t200, e_bI, t201, e_bI, if_pos (by rw [z_w_id (by omega) (by omega)]; omega), y_E_263_22, t200, e_bI, a1', e_bL, y_E_263_31, if_neg (by decide)]
    · have a1' : y_V sp ph (d + 7) 254 [y_bo 11 0 49, y_bi ((n_bd (2 ^ (L + R) - 1) t : Nat) : Int), y_bi 0] (y_sI m 49 0 0) = _ := a1
      have clE := m_code_lt hB hEE
      have lc : (z_w (z_lcmp (w_code L A B E : Int) (-1)) = 0) = ((w_code L A B E : Int) = -1) := n_lc_eq (by omega) (by omega) (by omega) (by omega)
      obtain ⟨m2, b1, b2⟩ := t_221L (sp := sp) (ph := ph) (d := d + 4) (m := m1) (q_RR_F kR a2 (fun a k q => by unfold m_25 at q; unfold q_wr; omega)) hB hEE
      have cut := m_cut_eq hB hFF hEE (by omega) (by omega)
      rw [← cut, ← f1] at b1
      have eX : y_mI m2 52 5 = (X : Int) := by rw [q_F_I b2 52 5 (by unfold m_9; omega), q_F_I a2 52 5 (by unfold m_25; omega), e_II' (by omega)]; exact hU.2.1
      have hX := hU.2.2.1
      have hb := m_S_b (what := 0) hB (w_okb hFF.1)
      have hF20 := hFF.2
      have nn : 0 ≤ M := by
        have f1' := m_dec_fx false hB hFF
        have p1 := (m_dec_D false hB hFF).2.2
        rw [q_fx_nat p1] at f1'
        have t1 : 0 ≤ q_TT false := by decide
        have := Int.mul_nonneg p1.1 t1
        have e3 : m_S 0 L A B F = w_S (w_f false L A B) F := by rw [m_S_eq]; rfl
        rw [f1, e3, ← f1']; omega
      rw [← f1] at hb
      refine ⟨m2, ?_, q_F_trans hF0 (q_F_trans (q_F_mono a2 (fun a k q => Or.inl q)) (q_F_mono b2 (fun a k q => by unfold m_9 at q; unfold u_R25 m_25; omega))), by rw [q_F_I b2 49 0 (by unfold m_9; omega), q_F_I a2 49 0 (by unfold m_25; omega), e_II]⟩
      rw [if_neg f4, y_C_263, y_E_263_0, t200, e_bI, t201, e_bI, if_pos (by rw [z_w_id (by omega) (by omega)]; omega), y_E_263_22, t200, e_bI, a1', e_bL, y_E_263_31, if_pos (by rw [lc]; omega), y_E_263_42, b1, e_bI, eX]
      have zw : z_w ((M + 64) * 1000 / 281474976710656 - 1000 * (X : Int)) = (M + 64) * 1000 / 281474976710656 - 1000 * (X : Int) := z_w_id (by omega) (by omega)
      rw [zw]
      by_cases c : (M + 64) * 1000 / 281474976710656 - 1000 * (X : Int) ≤ 0
      · rw [if_pos c, if_pos c, y_E_263_68, y_E_263_69]
      · rw [if_neg c, if_neg c, y_E_263_69]
  · have p3' : ¬ 3 ≤ n_pop (n_bd (2 ^ (L + R) - 1) t) := p3
    have hMF : M = m_F := (m_is_F hM).mpr (fun x hx => by obtain ⟨E, g, _⟩ := hx; exact p3 g.2.1)
    refine ⟨_, ?_, hF0, e_II⟩
    rw [if_pos hMF, y_C_263, y_E_263_0, t200, e_bI, t201, e_bI, if_neg (by rw [z_w_id (by omega) (by omega)]; omega), y_E_263_31, if_neg (by decide)]
/-! which holes to leave: the fewest, then the least bits -/
def m_lv (W : Nat) (fit : Nat → Bool) (r : Int) : Prop := (r = -1 ∧ ∀ o, (∀ j, o.testBit j = true → W.testBit j = true) → fit o = false) ∨ ∃ o : Nat, r = o ∧ (∀ j, o.testBit j = true → W.testBit j = true) ∧ fit o = true ∧ ∀ o', (∀ j, o'.testBit j = true → W.testBit j = true) → fit o' = true → n_pop o < n_pop o' ∨ (n_pop o = n_pop o' ∧ o ≤ o')
theorem m_lv_uni {W : Nat} {fit : Nat → Bool} {r r' : Int} (h : m_lv W fit r) (g : m_lv W fit r') : r = r' := by
  rcases h with ⟨h1, h2⟩ | ⟨o, h1, h2, h3, h4⟩ <;> rcases g with ⟨g1, g2⟩ | ⟨o', g1, g2, g3, g4⟩
  · omega
  · rw [h2 o' g2] at g3; cases g3
  · rw [g2 o h2] at h3; cases h3
  · have := h4 o' g2 g3
    have := g4 o h2 h3
    omega
/-- whether a lace is long enough for what is left -/
noncomputable def m_ft (tr : Nat → Int) (W X : Nat) (o : Nat) : Bool := decide (tr (n_bd W o) ≠ m_F) && !decide ((X : Int) * 281474976710656 + 64 < tr (n_bd W o))
theorem s_174 {T : Nat} (hU : u_C m L R A B t lw X w) (hX : X ≤ 9999) (hT : T < 4096) (hM : m_is (y_mJ m 10 T) (m_P 0 L A B (m_hx lw L (c_wh L R t) T))) : y_V sp ph (d + 3) 174 [y_bo 10 0 0, y_bi (T : Int)] m = y_rI (n_b (decide (y_mJ m 10 T ≠ m_F) && !decide ((X : Int) * 281474976710656 + 64 < y_mJ m 10 T))) m := by
  have hB := hU.2.2.1.1
  have hWl := c_wh_lt (t := t) hB.1 hB.2.1
  have s110 := s_110 (sp := sp) (ph := ph) (d := d) (m := m) hT
  have hlow := fun q => m_is_low hB hWl (fun j hj => c_wh_in hj) hM q
  have lc := m_is_lc (v := y_mJ m 10 T) (by
    by_cases q : y_mJ m 10 T = m_F
    · exact Or.inl q
    · have := hlow q; exact Or.inr (by omega))
  rw [y_C_174, y_E_174_0, s110, e_bL]
  by_cases q : y_mJ m 10 T = m_F
  · rw [if_pos (by rw [lc]; exact q), y_E_174_35, y_E_174_36, e_g (Or.inl rfl), decide_eq_false (fun r => r q)]; rfl
  · have hl := hlow q
    have s57 := s_57 (sp := sp) (ph := ph) (d := d) (m := m) (x := y_mJ m 10 T) (y := X) (by omega) (by omega) hX
    rw [if_neg (by rw [lc]; exact q), hU.1.eX, s57, e_bI, decide_eq_true q]
    cases decide ((X : Int) * 281474976710656 + 64 < y_mJ m 10 T)
    · rw [if_neg (by decide), y_E_174_36, e_g (Or.inr rfl)]; rfl
    · rw [if_pos (by decide), y_E_174_35, y_E_174_36, e_g (Or.inl rfl)]; rfl
/-- what was found so far -/
def m_lw (W : Nat) (fit : Nat → Bool) (l : Nat) (r : Int) : Prop := (r = -1 ∧ ∀ o, o < l → (∀ j, o.testBit j = true → W.testBit j = true) → fit o = false) ∨ ∃ o : Nat, r = o ∧ o < l ∧ (∀ j, o.testBit j = true → W.testBit j = true) ∧ fit o = true ∧ ∀ o', o' < l → (∀ j, o'.testBit j = true → W.testBit j = true) → fit o' = true → n_pop o < n_pop o' ∨ (n_pop o = n_pop o' ∧ o ≤ o')
theorem l_150 {W : Nat} (hW : W = c_wh L R t) (hU : u_C m L R A B t lw X w) (hX : X ≤ 9999) (hM : ∀ T, T < 4096 → m_is (y_mJ m 10 T) (m_P 0 L A B (m_hx lw L (c_wh L R t) T))) : ∀ (n l : Nat) (r : Int), l + n = W + 1 → m_lw W (m_ft (y_mJ m 10) W X) l r → ∃ r', y_R sp ph (d + 3) 150 27 [some (y_bo 10 0 0), some (y_bi (W : Int)), some (y_bi r), some (y_bi (l : Int)), none] [] m = y_rI r' m ∧ m_lw W (m_ft (y_mJ m 10) W X) (W + 1) r' := by
  have hB := hU.2.2.1.1
  have hWl : W < 4096 := by rw [hW]; exact c_wh_lt hB.1 hB.2.1
  intro n
  induction n with
  | zero =>
    intro l r hn hr
    have : l = W + 1 := by omega
    subst this
    refine ⟨r, ?_, hr⟩
    rw [y_E_150_27, if_pos (by rw [z_w_id (by omega) (by omega), z_w_id (by omega) (by omega)]; omega), y_E_150_88]
  | succ n ih =>
    intro l r hn hr
    have e1 : (l : Int) + 1 = ((l + 1 : Nat) : Int) := by omega
    have hl4 : l < 4096 := by omega
    have hpl := n_pop_le hl4
    have s1 := s_1 (sp := sp) (ph := ph) (d := d + 2) (m := m) hl4
    have hbd := n_bd_le l W
    have hbd2 := n_bd_le W l
    have s174 := s_174 (sp := sp) (ph := ph) (d := d) (T := n_bd W l) hU hX (by omega) (hM _ (by omega))
    have eft : (decide (y_mJ m 10 (n_bd W l) ≠ m_F) && !decide ((X : Int) * 281474976710656 + 64 < y_mJ m 10 (n_bd W l))) = m_ft (y_mJ m 10) W X l := rfl
    rw [eft] at s174
    have en1 : z_iand (l : Int) (z_ixor (W : Int) (-1)) = ((n_bd l W : Nat) : Int) := n_not (by omega) (by omega)
    have en2 : z_iand (W : Int) (z_ixor (l : Int) (-1)) = ((n_bd W l : Nat) : Int) := n_not (by omega) (by omega)
    -- kept
    have keep : ((∀ j, l.testBit j = true → W.testBit j = true) → m_ft (y_mJ m 10) W X l = true → ∃ o : Nat, r = o ∧ n_pop o ≤ n_pop l) → ∃ r', y_R sp ph (d + 3) 150 27 [some (y_bo 10 0 0), some (y_bi (W : Int)), some (y_bi r), some (y_bi ((l : Int) + 1)), none] [] m = y_rI r' m ∧ m_lw W (m_ft (y_mJ m 10) W X) (W + 1) r' := by
      intro hk
      rw [e1]
      refine ih (l + 1) r (by omega) ?_
      rcases hr with ⟨h1, h2⟩ | ⟨o, h1, h2, h3, h4, h5⟩
      · refine Or.inl ⟨h1, fun o ho hs => ?_⟩
        by_cases q : o = l
        · subst q
          cases f : m_ft (y_mJ m 10) W X o
          · rfl
          · obtain ⟨o', q1, _⟩ := hk hs f; omega
        · exact h2 o (by omega) hs
      · refine Or.inr ⟨o, h1, by omega, h3, h4, fun o' ho hs hf => ?_⟩
        by_cases q : o' = l
        · subst q
          obtain ⟨o2, q1, q2⟩ := hk hs hf
          have : o2 = o := by omega
          subst this
          omega
        · exact h5 o' (by omega) hs hf
    have taken : (∀ j, l.testBit j = true → W.testBit j = true) → m_ft (y_mJ m 10) W X l = true → (r = -1 ∨ ∃ o : Nat, r = o ∧ n_pop l < n_pop o) → ∃ r', y_R sp ph (d + 3) 150 27 [some (y_bo 10 0 0), some (y_bi (W : Int)), some (y_bi (l : Int)), some (y_bi ((l : Int) + 1)), none] [] m = y_rI r' m ∧ m_lw W (m_ft (y_mJ m 10) W X) (W + 1) r' := by
      intro hs hf hc
      rw [e1]
      refine ih (l + 1) l (by omega) (Or.inr ⟨l, rfl, by omega, hs, hf, fun o' ho hs' hf' => ?_⟩)
      by_cases q : o' = l
      · subst q; omega
      · rcases hr with ⟨h1, h2⟩ | ⟨o, h1, h2, h3, h4, h5⟩
        · rw [h2 o' (by omega) hs'] at hf'; cases hf'
        · have := h5 o' (by omega) hs' hf'
          rcases hc with c | ⟨o2, c1, c2⟩
          · omega
          · have : o2 = o := by omega
            subst this
            omega
    rw [y_E_150_27, if_neg (by rw [z_w_id (by omega) (by omega), z_w_id (by omega) (by omega)]; omega)]
    have fin1 : (r = -1 ∨ ∃ o : Nat, r = o ∧ n_pop l < n_pop o) → ∃ r', y_R sp ph (d + 3) 150 53 [some (y_bo 10 0 0), some (y_bi (W : Int)), some (y_bi r), some (y_bi (l : Int)), none] [y_bi 1] m = y_rI r' m ∧ m_lw W (m_ft (y_mJ m 10) W X) (W + 1) r' := by
      intro hc
      rw [y_E_150_53, en1]
      by_cases z : n_bd l W = 0
      · rw [if_neg (by rw [z]; decide), if_neg (by decide), en2, s174, e_bI]
        cases f : m_ft (y_mJ m 10) W X l
        · rw [if_pos (by decide), y_E_150_82]
          exact keep (fun _ hf => by rw [f] at hf; cases hf)
        · rw [if_neg (by decide), y_E_150_82]
          exact taken (n_bd_0.mp z) f hc
      · rw [if_pos (by rw [z_w_id (by omega) (by omega)]; omega), y_E_150_82]
        exact keep (fun hs _ => absurd (n_bd_0.mpr hs) z)
    rcases hr with ⟨h1, h2⟩ | ⟨o, h1, h2, h3, h4, h5⟩
    · have zr : z_w r = -1 := by rw [h1]; decide
      rw [if_pos zr, y_E_150_48]
      exact fin1 (Or.inl h1)
    · have ho4 : o < 4096 := by omega
      have hpo := n_pop_le ho4
      have s1o := s_1 (sp := sp) (ph := ph) (d := d + 2) (m := m) ho4
      have zr : ¬ z_w r = -1 := by rw [h1, z_w_id (by omega) (by omega)]; omega
      rw [if_neg zr, s1, e_bI, h1, s1o, e_bI, ← h1]
      by_cases c : n_pop l < n_pop o
      · rw [if_neg (by rw [z_w_id (by omega) (by omega), z_w_id (by omega) (by omega)]; omega), y_E_150_48]
        exact fin1 (Or.inr ⟨o, h1, c⟩)
      · rw [if_pos (by rw [z_w_id (by omega) (by omega), z_w_id (by omega) (by omega)]; omega), y_E_150_52, y_E_150_53, en1]
        by_cases z : n_bd l W = 0
        · rw [if_neg (by rw [z]; decide), if_pos (by decide), y_E_150_82]
          exact keep (fun _ _ => ⟨o, h1, by omega⟩)
        · rw [if_pos (by rw [z_w_id (by omega) (by omega)]; omega), y_E_150_82]
          exact keep (fun _ _ => ⟨o, h1, by omega⟩)
theorem m_lw_lv {W : Nat} {fit : Nat → Bool} {r : Int} (h : m_lw W fit (W + 1) r) : m_lv W fit r := by
  have b : ∀ o, (∀ j, o.testBit j = true → W.testBit j = true) → o < W + 1 := fun o hs => by have := m_sub_le hs; omega
  rcases h with ⟨h1, h2⟩ | ⟨o, h1, h2, h3, h4, h5⟩
  · exact Or.inl ⟨h1, fun o hs => h2 o (b o hs) hs⟩
  · exact Or.inr ⟨o, h1, h3, h4, fun o' hs hf => h5 o' (b o' hs) hs hf⟩
theorem s_150 (hU : u_C m L R A B t lw X w) (hX : X ≤ 9999) : ∃ tr r m', (∀ T, T < 4096 → m_is (tr T) (m_P 0 L A B (m_hx lw L (c_wh L R t) T))) ∧ m_lv (c_wh L R t) (m_ft tr (c_wh L R t) X) r ∧ y_V sp ph (d + 7) 150 [y_bo 10 0 0] m = y_rI r m' ∧ q_F m_Fq m m' ∧ u_C m' L R A B t lw X w := by
  obtain ⟨m1, a1, a2, a3, a4⟩ := u_109 (sp := sp) (ph := ph) (d := d) hU
  have hK1 := a3.1
  have s41 := s_41 (sp := sp) (ph := ph) (d := d + 4) (m := m1) (a := y_mc m1) hK1.eL hK1.eR hK1.et hK1.l6 hK1.r6 hK1.t4
  obtain ⟨r, r1, r2⟩ := l_150 (sp := sp) (ph := ph) (d := d + 3) (W := c_wh L R t) rfl a3 hX a4 (c_wh L R t + 1) 0 (-1) (by omega) (Or.inl ⟨rfl, fun o ho => absurd ho (Nat.not_lt_zero _)⟩)
  refine ⟨y_mJ m1 10, r, m1, a4, m_lw_lv r2, ?_, a2, a3⟩
  rw [y_C_150, y_E_150_0, a1, e_bV, s41, e_bI]
  exact r1
end Leave
