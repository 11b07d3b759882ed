section Leave
variable {sp : Nat → Nat} {ph : Bool} {d : Nat} {m : y_m} {L R A B t lw X T : Nat} {w : List Nat}
/-- whether a length is within the lace -/
theorem m_fit_eq {M v : Int} {W : Nat} (hB : m_B L R A B) (hW : W < 4096) (hin : ∀ j, W.testBit j = true → j < L + R) (hX : X ≤ 9999) (h : m_rf 0 L A B v (m_hx lw L W T)) (g : m_is M (m_P 0 L A B (m_hx lw L W T))) : (v = -1 ↔ M = m_F) ∧ (v ≠ -1 → v.toNat < 167772160000 ∧ 0 ≤ v ∧ decide (q_sn false A B (q_dX v.toNat X) ≤ 0) = !decide ((X : Int) * 281474976710656 + 64 < M)) := by
  rcases m_near h g with ⟨n1, n2⟩ | ⟨E, F, e1, e2, e3, e4, e5, e6, e7, e8⟩
  · exact ⟨⟨fun _ => n2, fun _ => n1⟩, fun q => absurd n1 q⟩
  · have hE := (m_hx_E hW hin e1).1
    have cl := m_code_lt hB hE
    refine ⟨⟨fun q => by omega, fun q => by omega⟩, fun _ => ⟨by rw [e2, Int.toNat_natCast]; exact cl, by omega, ?_⟩⟩
    rw [e2, Int.toNat_natCast]
    obtain ⟨d1, d2, d3⟩ := m_dec_D false hB hE
    have hfx := m_dec_fx false hB hE
    have e : ∀ k, k < 6 → q_dX (w_code L A B E) X k = (fun k => q_dec false (w_code L A B E) k - (fun k => if k = 0 then (X : Int) else 0) k) k := fun k _ => rfl
    have hbox : q_box (q_dX (w_code L A B E) X) := by
      obtain ⟨c0, c1, c2, c3, c4, c5⟩ := w_b hB.1 hB.2.1 hE.1
      have w := w_wh_le (A := A) (B := B) hB.1 hB.2.1 hB.2.2.2.1 hB.2.2.2.2.2.1 (w_okb hE.1)
      have hl := hE.2
      have g0 := d1 0 (by decide)
      unfold w_d at g0
      simp only [reduceIte, Bool.false_eq_true] at g0
      unfold q_box at d2 ⊢
      unfold q_dX
      simp only [reduceIte, show ¬ (1 : Nat) = 0 by decide, show ¬ (2 : Nat) = 0 by decide, show ¬ (3 : Nat) = 0 by decide, show ¬ (4 : Nat) = 0 by decide, show ¬ (5 : Nat) = 0 by decide]
      omega
    have hx : q_fx false A B (q_dX (w_code L A B E) X) = m_S 0 L A B E - (X : Int) * 281474976710656 := by
      have eS : w_S (w_f false L A B) E = m_S 0 L A B E := by rw [m_S_eq]; rfl
      rw [q_fx_congr e, q_fx_sub, hfx, eS]
      unfold q_fx
      simp only [reduceIte, show ¬ (1 : Nat) = 0 by decide, show ¬ (2 : Nat) = 0 by decide, show ¬ (3 : Nat) = 0 by decide, show ¬ (4 : Nat) = 0 by decide, show ¬ (5 : Nat) = 0 by decide, show q_TT false = 281474976710656 from rfl, Int.zero_mul]
      omega
    have sep := q_sep false hB.2.2.2.2.2.2.1 hB.2.2.1 hB.2.2.2.2.2.2.2 hbox
    have gap := q_gap false hB.2.2.2.2.2.2.1 hbox
    rw [hx] at sep gap
    rw [sep]
    by_cases c1 : 64 < m_S 0 L A B E - (X : Int) * 281474976710656
    · rw [if_pos c1, decide_eq_false (by decide), decide_eq_true (show (X : Int) * 281474976710656 + 64 < M by omega)]; rfl
    · rw [if_neg c1, decide_eq_false (show ¬ (X : Int) * 281474976710656 + 64 < M by omega)]
      refine decide_eq_true ?_
      split <;> omega
noncomputable def m_fr (A B : Nat) (hm : Nat → Int) (W X : Nat) (o : Nat) : Bool := decide (hm (n_bd W o) ≠ -1) && decide (q_sn false A B (q_dX (hm (n_bd W o)).toNat X) ≤ 0)
theorem m_fr_ft {tr hm : Nat → Int} {W : Nat} (hB : m_B L R A B) (hW : W < 4096) (hin : ∀ j, W.testBit j = true → j < L + R) (hX : X ≤ 9999) (h : ∀ T, T < 4096 → m_rf 0 L A B (hm T) (m_hx lw L W T)) (g : ∀ T, T < 4096 → m_is (tr T) (m_P 0 L A B (m_hx lw L W T))) (o : Nat) : m_fr A B hm W X o = m_ft tr W X o := by
  have hbd := n_bd_le W o
  obtain ⟨f1, f2⟩ := m_fit_eq hB hW hin hX (h (n_bd W o) (by omega)) (g (n_bd W o) (by omega))
  unfold m_fr m_ft
  by_cases q : hm (n_bd W o) = -1
  · rw [decide_eq_false (show ¬ (hm (n_bd W o) ≠ -1) from fun r => r q), decide_eq_false (show ¬ (tr (n_bd W o) ≠ m_F) from fun r => r (f1.mp q))]; rfl
  · rw [decide_eq_true q, decide_eq_true (show tr (n_bd W o) ≠ m_F from fun r => q (f1.mpr r)), (f2 q).2.2]
theorem l_262b {W : Nat} (hW : W = c_wh L R t) {c : Nat} (hc12 : c ≤ 12) : ∀ (n l : Nat) (m : y_m), l + n = W + 1 → m_Ch m L R A B lw t → y_mI m 52 5 = (X : Int) → X ≤ 9999 → (∀ T, T < 4096 → m_rf 0 L A B (y_mJ m 100 T) (m_hx lw L W T)) → (∃ m', y_R sp ph (d + 4) 262 24 [some (y_bo 11 0 49), some (y_bi (W : Int)), some (y_bi (c : Int)), some (y_bi (l : Int)), none, none] [] m = y_R sp ph (d + 4) 262 86 [some (y_bo 11 0 49), some (y_bi (W : Int)), some (y_bi (c : Int)), none, none, none] [] m' ∧ q_F m_9 m m' ∧ ∀ o, l ≤ o → (∀ j, o.testBit j = true → W.testBit j = true) → n_pop o = c → m_fr A B (y_mJ m 100) W X o = false) ∨ ∃ (o : Nat) (m' : y_m), y_R sp ph (d + 4) 262 24 [some (y_bo 11 0 49), some (y_bi (W : Int)), some (y_bi (c : Int)), some (y_bi (l : Int)), none, none] [] m = y_rI (o : Int) m' ∧ q_F m_9 m m' ∧ l ≤ o ∧ (∀ j, o.testBit j = true → W.testBit j = true) ∧ n_pop o = c ∧ m_fr A B (y_mJ m 100) W X o = true ∧ ∀ o', l ≤ o' → o' < o → (∀ j, o'.testBit j = true → W.testBit j = true) → n_pop o' = c → m_fr A B (y_mJ m 100) W X o' = false := by
  intro n
  induction n with
  | zero =>
    intro l m hn hc hX5 hX hH
    have hB := hc.2.2.2.2.2.2.2.2.2
    have hWl : W < 4096 := by rw [hW]; exact c_wh_lt hB.1 hB.2.1
    refine Or.inl ⟨m, ?_, q_F_refl, fun o ho hs _ => by have := m_sub_le hs; omega⟩
    rw [y_E_262_24, if_pos (by rw [z_w_id (by omega) (by omega), z_w_id (by omega) (by omega)]; omega)]
  | succ n ih =>
    intro l m hn hc hX5 hX hH
    have hB := hc.2.2.2.2.2.2.2.2.2
    have hWl : W < 4096 := by rw [hW]; exact c_wh_lt hB.1 hB.2.1
    have hinW : ∀ j, W.testBit j = true → j < L + R := fun j hj => by rw [hW] at hj; exact c_wh_in hj
    have e1 : (l : Int) + 1 = ((l + 1 : Nat) : Int) := by omega
    have hl4 : l < 4096 := by omega
    have hpl := n_pop_le hl4
    have t201 := t_201 (sp := sp) (ph := ph) (d := d + 3) (m := m) hl4
    have hbd := n_bd_le l W
    have hbd2 := n_bd_le W l
    have en1 : z_iand (l : Int) (z_ixor (W : Int) (-1)) = ((n_bd l W : Nat) : Int) := n_not (by omega) (by omega)
    have en2 : z_iand (W : Int) (z_ixor (l : Int) (-1)) = ((n_bd W l : Nat) : Int) := n_not (by omega) (by omega)
    have key : ∀ (w : Nat) (r : y_Rs), w < 4096 → y_g (0 ≤ (w : Int) ∧ (w : Int) < (4096 : Int)) r = r := fun w r h => e_g ⟨by omega, by omega⟩
    have skip : ∀ m1 : y_m, q_F m_9 m m1 → ((∀ j, l.testBit j = true → W.testBit j = true) → n_pop l = c → m_fr A B (y_mJ m 100) W X l = false) → (∃ m', y_R sp ph (d + 4) 262 80 [some (y_bo 11 0 49), some (y_bi (W : Int)), some (y_bi (c : Int)), some (y_bi (l : Int)), none, none] [] m1 = y_R sp ph (d + 4) 262 86 [some (y_bo 11 0 49), some (y_bi (W : Int)), some (y_bi (c : Int)), none, none, none] [] m' ∧ q_F m_9 m m' ∧ ∀ o, l ≤ o → (∀ j, o.testBit j = true → W.testBit j = true) → n_pop o = c → m_fr A B (y_mJ m 100) W X o = false) ∨ ∃ (o : Nat) (m' : y_m), y_R sp ph (d + 4) 262 80 [some (y_bo 11 0 49), some (y_bi (W : Int)), some (y_bi (c : Int)), some (y_bi (l : Int)), none, none] [] m1 = y_rI (o : Int) m' ∧ q_F m_9 m m' ∧ l ≤ o ∧ (∀ j, o.testBit j = true → W.testBit j = true) ∧ n_pop o = c ∧ m_fr A B (y_mJ m 100) W X o = true ∧ ∀ o', l ≤ o' → o' < o → (∀ j, o'.testBit j = true → W.testBit j = true) → n_pop o' = c → m_fr A B (y_mJ m 100) W X o' = false := by
      intro m1 F1 hno
      have e100 : ∀ k, y_mJ m1 100 k = y_mJ m 100 k := fun k => q_F_J F1 100 k (by unfold m_9; omega)
      have hfr : ∀ o, m_fr A B (y_mJ m1 100) W X o = m_fr A B (y_mJ m 100) W X o := fun o => by unfold m_fr; rw [e100]
      rw [y_E_262_80, e1]
      rcases ih (l + 1) m1 (by omega) (m_Ch_F hc F1 (fun a k q => by unfold m_9 at q; unfold q_wr; omega)) (by rw [q_F_I F1 52 5 (by unfold m_9; omega)]; exact hX5) hX (fun T hT => by rw [e100]; exact hH T hT) with ⟨m2, a1, a2, a3⟩ | ⟨o, m2, a1, a2, a3, a4, a5, a6, a7⟩
      · refine Or.inl ⟨m2, a1, q_F_trans F1 a2, fun o ho hs hp => ?_⟩
        by_cases q : o = l
        · subst q; exact hno hs hp
        · rw [← hfr]; exact a3 o (by omega) hs hp
      · refine Or.inr ⟨o, m2, a1, q_F_trans F1 a2, by omega, a4, a5, by rw [← hfr]; exact a6, fun o' h1 h2 hs hp => ?_⟩
        by_cases q : o' = l
        · subst q; exact hno hs hp
        · rw [← hfr]; exact a7 o' (by omega) h2 hs hp
    rw [y_E_262_24, if_neg (by rw [z_w_id (by omega) (by omega), z_w_id (by omega) (by omega)]; omega), en1]
    by_cases z : n_bd l W = 0
    · rw [if_neg (by rw [z]; decide), t201, e_bI]
      by_cases p : n_pop l = c
      · rw [if_pos (by rw [z_w_id (by omega) (by omega), z_w_id (by omega) (by omega)]; omega), y_E_262_48, en2, key _ _ (by omega), Int.toNat_natCast]
        have hrf := hH (n_bd W l) (by omega)
        have vb := m_rf_b hB (fun E g => (m_hx_E hWl hinW g).1) hrf
        have lc : (z_w (z_lcmp (y_mJ m 100 (n_bd W l)) (-1)) = 0) = (y_mJ m 100 (n_bd W l) = -1) := n_lc_eq (by omega) (by omega) (by omega) (by omega)
        by_cases q : y_mJ m 100 (n_bd W l) = -1
        · rw [if_pos (by rw [lc]; exact q)]
          refine skip m q_F_refl (fun _ _ => ?_)
          unfold m_fr
          rw [decide_eq_false (show ¬ (y_mJ m 100 (n_bd W l) ≠ -1) from fun r => r q)]; rfl
        · obtain ⟨m1, b1, b2⟩ := t_233 (sp := sp) (ph := ph) (d := d + 1) (m := m) (x := (y_mJ m 100 (n_bd W l)).toNat) (X := X) hc.2.2.2.2.2.2.2.2.1 (by omega) hX5 hX
          rw [Int.toNat_of_nonneg (by omega)] at b1
          have F1 : q_F m_9 m m1 := b2
          have efr : decide (q_sn false A B (q_dX (y_mJ m 100 (n_bd W l)).toNat X) ≤ 0) = m_fr A B (y_mJ m 100) W X l := by
            unfold m_fr
            rw [decide_eq_true q]; rfl
          rw [if_neg (by rw [lc]; exact q), b1, e_bI, efr]
          cases f : m_fr A B (y_mJ m 100) W X l
          · rw [if_pos (by decide)]
            exact skip m1 F1 (fun _ _ => f)
          · rw [if_neg (by decide)]
            exact Or.inr ⟨l, m1, rfl, F1, Nat.le_refl _, n_bd_0.mp z, p, f, fun o' h1 h2 => by omega⟩
      · rw [if_neg (by rw [z_w_id (by omega) (by omega), z_w_id (by omega) (by omega)]; omega)]
        exact skip m q_F_refl (fun _ q => absurd q p)
    · rw [if_pos (by rw [z_w_id (by omega) (by omega)]; omega)]
      exact skip m q_F_refl (fun hs _ => absurd (n_bd_0.mpr hs) z)
theorem l_262a {W : Nat} (hW : W = c_wh L R t) : ∀ (n c : Nat) (m : y_m), c + n = 13 → m_Ch m L R A B lw t → y_mI m 52 5 = (X : Int) → X ≤ 9999 → (∀ T, T < 4096 → m_rf 0 L A B (y_mJ m 100 T) (m_hx lw L W T)) → (∀ o, (∀ j, o.testBit j = true → W.testBit j = true) → n_pop o < c → m_fr A B (y_mJ m 100) W X o = false) → ∃ r m', y_R sp ph (d + 4) 262 16 [some (y_bo 11 0 49), some (y_bi (W : Int)), some (y_bi (c : Int)), none, none, none] [] m = y_rI r m' ∧ q_F m_9 m m' ∧ m_lv W (m_fr A B (y_mJ m 100) W X) r := by
  intro n
  induction n with
  | zero =>
    intro c m hn hc hX5 hX hH hno
    have hB := hc.2.2.2.2.2.2.2.2.2
    have hWl : W < 4096 := by rw [hW]; exact c_wh_lt hB.1 hB.2.1
    refine ⟨-1, m, ?_, q_F_refl, Or.inl ⟨rfl, fun o hs => hno o hs ?_⟩⟩
    · rw [y_E_262_16, if_pos (by rw [z_w_id (by omega) (by omega)]; omega), y_E_262_92]
    · have := m_sub_le hs
      have := n_pop_le (x := o) (by omega)
      omega
  | succ n ih =>
    intro c m hn hc hX5 hX hH hno
    have e1 : (c : Int) + 1 = ((c + 1 : Nat) : Int) := by omega
    rw [y_E_262_16, if_neg (by rw [z_w_id (by omega) (by omega)]; omega)]
    rcases l_262b (sp := sp) (ph := ph) (d := d) hW (show c ≤ 12 by omega) (W + 1) 0 m (by omega) hc hX5 hX hH with ⟨m1, a1, a2, a3⟩ | ⟨o, m1, a1, a2, a3, a4, a5, a6, a7⟩
    · have e100 : ∀ k, y_mJ m1 100 k = y_mJ m 100 k := fun k => q_F_J a2 100 k (by unfold m_9; omega)
      have hfr : ∀ o, m_fr A B (y_mJ m1 100) W X o = m_fr A B (y_mJ m 100) W X o := fun o => by unfold m_fr; rw [e100]
      obtain ⟨r, m2, b1, b2, b3⟩ := ih (c + 1) m1 (by omega) (m_Ch_F hc a2 (fun a k q => by unfold m_9 at q; unfold q_wr; omega)) (by rw [q_F_I a2 52 5 (by unfold m_9; omega)]; exact hX5) hX (fun T hT => by rw [e100]; exact hH T hT) (fun o hs hp => by
        rw [hfr]
        by_cases q : n_pop o = c
        · exact a3 o (by omega) hs q
        · exact hno o hs (by omega))
      refine ⟨r, m2, ?_, q_F_trans a2 b2, ?_⟩
      · refine (show _ = _ from a1).trans ?_
        rw [y_E_262_86, e1]; exact b1
      · rw [show m_fr A B (y_mJ m 100) W X = m_fr A B (y_mJ m1 100) W X from funext fun o => (hfr o).symm]
        exact b3
    · refine ⟨o, m1, a1, a2, Or.inr ⟨o, rfl, a4, a6, fun o' hs hf => ?_⟩⟩
      rcases Nat.lt_trichotomy (n_pop o') c with q | q | q
      · rw [hno o' hs q] at hf; cases hf
      · refine Or.inr ⟨by omega, ?_⟩
        rcases Nat.lt_or_ge o' o with r | r
        · rw [a7 o' (by omega) r hs q] at hf; cases hf
        · exact r
      · exact Or.inl (by omega)
def u_Rh (a k : Nat) : Prop := a = 92 ∨ a = 93 ∨ a = 99 ∨ a = 100 ∨ (a = 49 ∧ k = 0)
theorem t_262 {tr : Nat → Int} (hU : u_R m L R A B t lw X w) (hM : ∀ T, T < 4096 → m_is (tr T) (m_P 0 L A B (m_hx lw L (c_wh L R t) T))) : ∃ r m', m_lv (c_wh L R t) (m_ft tr (c_wh L R t) X) r ∧ y_V sp ph (d + 9) 262 [y_bo 11 0 49] m = y_rI r m' ∧ q_F u_Rh m m' ∧ y_mI m' 49 0 = 0 := by
  have hF0 : q_F u_Rh m (y_sI m 49 0 0) := q_F_sI (by unfold u_Rh; omega)
  have hF00 : q_F (fun a k => a = 49 ∧ k = 0) m (y_sI m 49 0 0) := q_F_sI ⟨rfl, rfl⟩
  have hc0 := m_Ch_F hU.1 hF00 (fun a k q => by unfold q_wr; omega)
  have hB := hU.1.2.2.2.2.2.2.2.2.2
  have hWl := c_wh_lt (t := t) hB.1 hB.2.1
  obtain ⟨m1, a1, a2, a3⟩ := t_260 (sp := sp) (ph := ph) (d := d) hc0
  have hc1 := m_Ch_F hc0 a2 (fun a k q => by unfold q_wr; omega)
  have hX5 : y_mI m1 52 5 = (X : Int) := by rw [q_F_I a2 52 5 (by omega), e_II' (by omega)]; exact hU.2.1
  obtain ⟨r, m2, b1, b2, b3⟩ := l_262a (sp := sp) (ph := ph) (d := d + 4) (W := c_wh L R t) rfl 13 0 m1 (by omega) hc1 hX5 hU.2.2.1 a3 (fun o _ h => absurd h (Nat.not_lt_zero _))
  obtain ⟨k0, k1, kA, kB, k4, k6, klw, kt4, kR, _⟩ := hc1
  have t200 := t_200 (sp := sp) (ph := ph) (d := d + 6) (m := m1) k0 k1 k6 hB.1 hB.2.1 kt4
  rw [show m_fr A B (y_mJ m1 100) (c_wh L R t) X = m_ft tr (c_wh L R t) X from funext fun o => m_fr_ft hB hWl (fun j hj => c_wh_in hj) hU.2.2.1 a3 hM o] at b3
  refine ⟨r, m2, b3, ?_, q_F_trans hF0 (q_F_trans (q_F_mono a2 (fun a k q => by unfold u_Rh; omega)) (q_F_mono b2 (fun a k q => by unfold m_9 at q; unfold u_Rh; omega))), by rw [q_F_I b2 49 0 (by unfold m_9; omega), q_F_I a2 49 0 (by omega), e_II]⟩
  rw [y_C_262, y_E_262_0, a1, e_bV, t200, e_bI]
  exact b1
end Leave
