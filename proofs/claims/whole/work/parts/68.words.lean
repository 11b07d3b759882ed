/-! ===== the class's words of rows ===== -/
def c_V (lw idx : Nat) : Int := c_W lw ((idx / 196).testBit 2) ((idx / 196).testBit 1) ((idx / 196).testBit 0) (idx % 196 / 28 + idx % 28 / 4) (idx % 196 / 28) (idx % 28 / 4) (decide (idx % 4 / 2 = 1)) (decide (idx % 2 = 1))
def c_Wd (m : y_m) (lw n : Nat) : Prop := ∀ idx, idx < n → y_mJ m 7 idx = c_V lw idx
theorem c_Wd_W {lw sort l r : Nat} {row ac : Bool} (hs : sort < 8) (hl : l < 7) (hr : r < 7) : c_V lw (sort * 196 + (l * 7 + r) * 4 + row.toNat * 2 + ac.toNat) = c_W lw (sort.testBit 2) (sort.testBit 1) (sort.testBit 0) (l + r) l r row ac := by
  have hx : row.toNat * 2 + ac.toNat < 4 := by cases row <;> cases ac <;> decide
  have e1 : (sort * 196 + (l * 7 + r) * 4 + row.toNat * 2 + ac.toNat) / 196 = sort := by omega
  have e2 : (sort * 196 + (l * 7 + r) * 4 + row.toNat * 2 + ac.toNat) % 196 / 28 = l := by omega
  have e3 : (sort * 196 + (l * 7 + r) * 4 + row.toNat * 2 + ac.toNat) % 28 / 4 = r := by omega
  have e4 : (sort * 196 + (l * 7 + r) * 4 + row.toNat * 2 + ac.toNat) % 4 / 2 = row.toNat := by cases row <;> cases ac <;> simp <;> omega
  have e5 : (sort * 196 + (l * 7 + r) * 4 + row.toNat * 2 + ac.toNat) % 2 = ac.toNat := by cases row <;> cases ac <;> simp <;> omega
  unfold c_V
  rw [e1, e2, e3, e4, e5]
  cases row <;> cases ac <;> rfl
theorem n_b_nat (b : Bool) : n_b b = (b.toNat : Int) := by cases b <;> rfl
theorem c_h1 : ∀ sort, sort < 8 → ∀ row : Bool, z_ixor (n_b row) (z_ishr ((sort : Nat) : Int) 2) = n_b (row != sort.testBit 2) := by decide
theorem c_h2 : ∀ sort, sort < 8 → z_iand (z_ishr ((sort : Nat) : Int) 1) 1 = n_b (sort.testBit 1) := by decide
theorem c_h3 : ∀ sort, sort < 8 → z_iand ((sort : Nat) : Int) 1 = n_b (sort.testBit 0) := by decide
theorem c_h4 : ∀ row ac : Bool, z_iand (n_b row * 2 + n_b ac) 1 = n_b ac ∧ z_ishr (n_b row * 2 + n_b ac) 1 = n_b row := by decide
theorem c_h5 (b : Bool) : 1 - n_b b = n_b (!b) := by cases b <;> rfl
section Words
variable {sp : Nat → Nat} {ph : Bool} {d : Nat} {m : y_m} {b L R lw : Nat}
theorem s_99 : ∀ {n : Int}, -1 ≤ n → n ≤ 12 → y_V sp ph (d + 1) 99 [y_bi n] m = y_rL (c_F n.toNat) m := by
  intro n h1 h2
  have key : ∀ (k : Nat) (j : Nat) (x : Int), j + k = n.toNat + 1 → 1 ≤ j → x = c_F (j - 1) → (2 ≤ j ∨ n ≤ 0) → y_R sp ph d 99 4 [some (y_bi n), some (y_bl x), none, some (y_bi (if j < 2 then 2 else (j : Int)))] [] m = y_rL (c_F n.toNat) m := by
    intro k
    induction k with
    | zero =>
      intro j x hj h1 hx hb
      rw [y_E_99_4]
      split
      all_goals
        simp (disch := omega) only [z_w_id, if_pos, if_neg, e_g, e_bI, e_bV, e_bL, e_II, e_II', e_IJ, e_JI, e_JJ, e_JJ', reduceIte, not_true_eq_false, not_false_eq_true, true_or, or_true, true_and, and_true, e_nb0, e_gT, y_E_99_20]
        rw [hx, show j - 1 = n.toNat by omega]
    | succ k ih =>
      intro j x hj h1 hx hb
      by_cases hj2 : j < 2
      · have hn : n ≤ 0 := by omega
        rw [if_pos hj2, y_E_99_4]
        simp (disch := omega) only [z_w_id, if_pos, if_neg, e_g, e_bI, e_bV, e_bL, e_II, e_II', e_IJ, e_JI, e_JJ, e_JJ', reduceIte, not_true_eq_false, not_false_eq_true, true_or, or_true, true_and, and_true, e_nb0, e_gT, y_E_99_20]
        have : n.toNat = 0 := by omega
        rw [hx, show j - 1 = 0 by omega, this]
      · rw [if_neg hj2, y_E_99_4]
        simp (disch := omega) only [z_w_id, if_pos, if_neg, e_g, e_bI, e_bV, e_bL, e_II, e_II', e_IJ, e_JI, e_JJ, e_JJ', reduceIte, not_true_eq_false, not_false_eq_true, true_or, or_true, true_and, and_true, e_nb0, e_gT]
        have := ih (j + 1) (x * j) (by omega) (by omega) (by rw [hx, Nat.add_sub_cancel]; exact (c_F_succ (show 0 < j by omega)).symm) (Or.inl (by omega))
        rw [if_neg (by omega)] at this
        exact this
  simp only [y_C_99, y_E_99_0]
  by_cases hn : n ≤ 0
  · exact key (n.toNat) 1 1 (by omega) (by omega) rfl (Or.inr hn)
  · have := key (n.toNat - 1) 2 1 (by omega) (by omega) rfl (Or.inl (by omega))
    exact this
theorem s_100 {x y z : Int} : y_V sp ph (d + 1) 100 [y_bi x, y_bi y, y_bi z] m = y_rI (x * 4 + y * 2 + z) m := by simp only [y_C_100, y_E_100_0]
theorem s_101 {x l r y z : Int} (h1 : 0 ≤ l) (h2 : l ≤ 100) (h3 : 0 ≤ r) (h4 : r ≤ 100) : y_V sp ph (d + 1) 101 [y_bi x, y_bi l, y_bi r, y_bi y, y_bi z] m = y_rI (x * 196 + (l * 7 + r) * 4 + y * 2 + z) m := by
  simp (disch := omega) only [y_C_101, y_E_101_0, y_E_101_8, y_E_101_10, z_w_id, if_pos, if_neg, e_g, e_bI, e_bV, e_bL, e_II, e_II', e_IJ, e_JI, e_JJ, e_JJ', reduceIte, not_true_eq_false, not_false_eq_true, true_or, or_true, true_and, and_true, e_nb0, e_gT]
theorem s_101n {x l r y z : Int} (h0 : -100 ≤ l) (h2 : l ≤ 100) (h1 : -100 ≤ r) (h4 : r ≤ 100) (h : l < 0 ∨ r < 0) : y_V sp ph (d + 1) 101 [y_bi x, y_bi l, y_bi r, y_bi y, y_bi z] m = y_rI (-1) m := by
  by_cases c : l < 0
  · simp (disch := omega) only [y_C_101, y_E_101_0, y_E_101_8, y_E_101_10, z_w_id, if_pos, if_neg, e_g, e_bI, e_bV, e_bL, e_II, e_II', e_IJ, e_JI, e_JJ, e_JJ', reduceIte, not_true_eq_false, not_false_eq_true, true_or, or_true, true_and, and_true, e_nb0, e_gT]
  · simp (disch := omega) only [y_C_101, y_E_101_0, y_E_101_8, y_E_101_10, z_w_id, if_pos, if_neg, e_g, e_bI, e_bV, e_bL, e_II, e_II', e_IJ, e_JI, e_JJ, e_JJ', reduceIte, not_true_eq_false, not_false_eq_true, true_or, or_true, true_and, and_true, e_nb0, e_gT]
theorem s_104 {sort : Nat} {row ac : Bool} (hw : y_mI m b 5 = (lw : Int)) (h2 : lw ≤ 2) (hs : sort < 8) : y_V sp ph (d + 2) 104 [y_bo 0 0 b, y_bi (sort : Int), y_bi (n_b row), y_bi (n_b ac)] m = y_rL (c_W lw (sort.testBit 2) (sort.testBit 1) (sort.testBit 0) 0 0 0 row ac) m := by
  simp only [y_C_104, y_E_104_0, c_h1 sort hs, c_h2 sort hs, s_46 hw h2, e_bI, e_nb0, y_E_104_35, y_E_104_36, c_h3 sort hs, e_nbz, c_W]
  cases r_may lw ac (row != sort.testBit 2) <;> cases r_may lw (row != sort.testBit 2) (sort.testBit 1) <;> cases row <;> cases sort.testBit 0 <;> simp (disch := omega) [n_b, y_E_104_54, y_E_104_55, z_w_id]
/-- a word of a row fewer -/
theorem l_105 {sort l r : Nat} {row ac : Bool} (hW : c_Wd m lw (sort * 196 + (l * 7 + r) * 4)) (hs : sort < 8) (hl : l < 7) (hr : r < 7) : (0 < l → y_mJ m 7 (sort * 196 + ((l - 1) * 7 + r) * 4 + row.toNat * 2 + ac.toNat) = c_W lw (sort.testBit 2) (sort.testBit 1) (sort.testBit 0) (l - 1 + r) (l - 1) r row ac) ∧ (0 < r → y_mJ m 7 (sort * 196 + (l * 7 + (r - 1)) * 4 + row.toNat * 2 + ac.toNat) = c_W lw (sort.testBit 2) (sort.testBit 1) (sort.testBit 0) (l + (r - 1)) l (r - 1) row ac) := by
  have hx : row.toNat * 2 + ac.toNat < 4 := by cases row <;> cases ac <;> decide
  refine ⟨fun h => ?_, fun h => ?_⟩
  · rw [hW _ (by omega), c_Wd_W hs (by omega) hr]
  · rw [hW _ (by omega), c_Wd_W hs hl (by omega)]
theorem s_105 {sort l r f : Nat} {row ac : Bool} (hw : y_mI m b 5 = (lw : Int)) (h2 : lw ≤ 2) (hs : sort < 8) (hl : l < 7) (hr : r < 7) (hf : l + r = f + 1) (hW : c_Wd m lw (sort * 196 + (l * 7 + r) * 4)) : y_V sp ph (d + 2) 105 [y_bo 1 0 6, y_bo 0 0 b, y_bi (sort : Int), y_bi (l : Int), y_bi (r : Int), y_bi (n_b row * 2 + n_b ac)] m = y_rL (c_W lw (sort.testBit 2) (sort.testBit 1) (sort.testBit 0) (l + r) l r row ac) m := by
  have q1 := (l_105 (row := false) (ac := row) hW hs hl hr).1
  have q2 := (l_105 (row := true) (ac := !row) hW hs hl hr).2
  have nb1 := n_b_r (b := row)
  have nb2 := n_b_r (b := !row)
  have hb : row.toNat ≤ 1 := by cases row <;> decide
  have hb2 : (!row).toNat ≤ 1 := by cases row <;> decide
  have z1 : ∀ m', m' = m → y_bL (y_V sp ph (d + 1) 101 [y_bi (sort : Int), y_bi ((l : Int) - 1), y_bi (r : Int), y_bi 0, y_bi (n_b row)] m') (fun _ _ => none) (fun _ _ => none) = none → True := fun _ _ _ => trivial
  rw [hf, c_W]
  simp only [y_C_105, y_E_105_0, (c_h4 row ac).1, (c_h4 row ac).2, s_46 hw h2, e_bI, e_nb0, c_h5]
  -- the left one
  have lft : ∀ k : Int → y_m → y_Rs, (y_bI (y_V sp ph (d + 1) 101 [y_bi (sort : Int), y_bi ((l : Int) - 1), y_bi (r : Int), y_bi 0, y_bi (n_b row)] m) (fun v2 m2 => y_bL (y_V sp ph (d + 1) 9 [y_bo 101 1568 7, y_bi v2] m2) k (fun e m1 => y_px e m1)) (fun e m1 => y_px e m1)) = k (if 0 < l then c_W lw (sort.testBit 2) (sort.testBit 1) (sort.testBit 0) f (l - 1) r false row else 0) m := by
    intro k
    by_cases h : 0 < l
    · rw [s_101 (by omega) (by omega) (by omega) (by omega), e_bI, s_9 (by omega) (by omega) (by omega), e_bL, if_pos h]
      have := q1 h
      rw [show l - 1 + r = f by omega] at this
      rw [← this, n_b_nat, show (((sort : Int) * 196 + (((l : Int) - 1) * 7 + (r : Int)) * 4 + 0 * 2 + (row.toNat : Int)).toNat) = sort * 196 + ((l - 1) * 7 + r) * 4 + false.toNat * 2 + row.toNat by simp; omega]
    · rw [s_101n (by omega) (by omega) (by omega) (by omega) (Or.inl (by omega)), e_bI, s_9o (by omega) (by omega) (by omega) (by omega), e_bL, if_neg h]
  have rgt : ∀ k : Int → y_m → y_Rs, (y_bI (y_V sp ph (d + 1) 101 [y_bi (sort : Int), y_bi (l : Int), y_bi ((r : Int) - 1), y_bi 1, y_bi (n_b (!row))] m) (fun v2 m2 => y_bL (y_V sp ph (d + 1) 9 [y_bo 101 1568 7, y_bi v2] m2) k (fun e m1 => y_px e m1)) (fun e m1 => y_px e m1)) = k (if 0 < r then c_W lw (sort.testBit 2) (sort.testBit 1) (sort.testBit 0) f l (r - 1) true (!row) else 0) m := by
    intro k
    by_cases h : 0 < r
    · rw [s_101 (by omega) (by omega) (by omega) (by omega), e_bI, s_9 (by omega) (by omega) (by omega), e_bL, if_pos h]
      have := q2 h
      rw [show l + (r - 1) = f by omega] at this
      rw [← this, n_b_nat, show (((sort : Int) * 196 + ((l : Int) * 7 + ((r : Int) - 1)) * 4 + 1 * 2 + ((!row).toNat : Int)).toNat) = sort * 196 + (l * 7 + (r - 1)) * 4 + true.toNat * 2 + (!row).toNat by simp; omega]
    · rw [s_101n (by omega) (by omega) (by omega) (by omega) (Or.inr (by omega)), e_bI, s_9o (by omega) (by omega) (by omega) (by omega), e_bL, if_neg h]
  rw [lft]
  have fin : ∀ x : Int, y_R sp ph (d + 1) 105 50 [some (y_bo 1 0 6), some (y_bo 0 0 b), some (y_bi (sort : Int)), some (y_bi (l : Int)), some (y_bi (r : Int)), none, some (y_bi (n_b row)), some (y_bi (n_b ac)), some (y_bl x), none] [] m = y_rL (x + (if r_may lw ac (!row) = true ∧ 0 < r then c_W lw (sort.testBit 2) (sort.testBit 1) (sort.testBit 0) f l (r - 1) true (!row) else 0)) m := by
    intro x
    simp only [y_E_105_50, c_h5, s_46 hw h2, e_bI, e_nb0]
    rw [rgt]
    cases r_may lw ac (!row)
    · simp [y_E_105_89]
    · simp [y_E_105_89]
  rw [fin, fin]
  cases r_may lw ac row
  · simp
  · simp
theorem l_103 {sort l r : Nat} {row ac : Bool} (hw : y_mI m b 5 = (lw : Int)) (h2 : lw ≤ 2) (hs : sort < 8) (hl : l < 7) (hr : r < 7) (hW : c_Wd m lw (sort * 196 + (l * 7 + r) * 4 + row.toNat * 2 + ac.toNat)) : ∃ m', y_R sp ph (d + 2) 103 12 [some (y_bo 1 0 6), some (y_bo 0 0 b), some (y_bi (sort : Int)), some (y_bi (l : Int)), some (y_bi (r : Int)), some (y_bi (n_b row)), some (y_bi (n_b ac)), none, none] [] m = y_R sp ph (d + 2) 103 12 [some (y_bo 1 0 6), some (y_bo 0 0 b), some (y_bi (sort : Int)), some (y_bi (l : Int)), some (y_bi (r : Int)), some (y_bi (n_b row)), some (y_bi (n_b ac + 1)), none, none] [] m' ∧ q_F (fun a _ => a = 7) m m' ∧ c_Wd m' lw (sort * 196 + (l * 7 + r) * 4 + row.toNat * 2 + ac.toNat + 1) ∧ (∀ x k, y_mI m' x k = y_mI m x k) := by
  have nb1 := n_b_r (b := row)
  have nb2 := n_b_r (b := ac)
  have hx : row.toNat * 2 + ac.toNat < 4 := by cases row <;> cases ac <;> decide
  have hW0 : c_Wd m lw (sort * 196 + (l * 7 + r) * 4) := fun i hi => hW i (by omega)
  refine ⟨y_sJ m 7 (sort * 196 + (l * 7 + r) * 4 + row.toNat * 2 + ac.toNat) (c_V lw (sort * 196 + (l * 7 + r) * 4 + row.toNat * 2 + ac.toNat)), ?_, q_F_sJ rfl, fun i hi => ?_, fun _ _ => rfl⟩
  · have ei : ((sort : Int) * 196 + ((l : Int) * 7 + (r : Int)) * 4 + n_b row * 2 + n_b ac) = ((sort * 196 + (l * 7 + r) * 4 + row.toNat * 2 + ac.toNat : Nat) : Int) := by rw [n_b_nat, n_b_nat]; omega
    have key : y_R sp ph (d + 2) 103 53 [some (y_bo 1 0 6), some (y_bo 0 0 b), some (y_bi (sort : Int)), some (y_bi (l : Int)), some (y_bi (r : Int)), some (y_bi (n_b row)), some (y_bi (n_b ac)), none, none] [y_bl (c_V lw (sort * 196 + (l * 7 + r) * 4 + row.toNat * 2 + ac.toNat))] m = y_R sp ph (d + 2) 103 12 [some (y_bo 1 0 6), some (y_bo 0 0 b), some (y_bi (sort : Int)), some (y_bi (l : Int)), some (y_bi (r : Int)), some (y_bi (n_b row)), some (y_bi (n_b ac + 1)), none, none] [] (y_sJ m 7 (sort * 196 + (l * 7 + r) * 4 + row.toNat * 2 + ac.toNat) (c_V lw (sort * 196 + (l * 7 + r) * 4 + row.toNat * 2 + ac.toNat))) := by
      rw [y_E_103_53, s_101 (by omega) (by omega) (by omega) (by omega), e_bI, ei, s_10 (by omega) (by omega) (by omega), e_bV, Int.toNat_natCast]
    have ev := c_Wd_W (lw := lw) (row := row) (ac := ac) hs hl hr
    rw [← key, y_E_103_12]
    by_cases hz : l + r = 0
    · have l0 : l = 0 := by omega
      have r0 : r = 0 := by omega
      subst l0; subst r0
      simp (disch := omega) only [z_w_id, if_pos, if_neg, e_g, e_bI, e_bV, e_bL, e_II, e_II', e_IJ, e_JI, e_JJ, e_JJ', reduceIte, not_true_eq_false, not_false_eq_true, true_or, or_true, true_and, and_true, e_nb0, e_gT, s_104 hw h2 hs]
      rw [ev]
    · obtain ⟨f, hf⟩ : ∃ f, l + r = f + 1 := ⟨l + r - 1, by omega⟩
      simp (disch := omega) only [z_w_id, if_pos, if_neg, e_g, e_bI, e_bV, e_bL, e_II, e_II', e_IJ, e_JI, e_JJ, e_JJ', reduceIte, not_true_eq_false, not_false_eq_true, true_or, or_true, true_and, and_true, e_nb0, e_gT, y_E_103_37, s_105 hw h2 hs hl hr hf hW0]
      rw [ev]
  · by_cases c : i = sort * 196 + (l * 7 + r) * 4 + row.toNat * 2 + ac.toNat
    · subst c; rw [e_JJ]
    · rw [e_JJ' (by omega)]; exact hW i (by omega)
theorem s_103 {sort l r : Nat} (hw : y_mI m b 5 = (lw : Int)) (h2 : lw ≤ 2) (hs : sort < 8) (hl : l < 7) (hr : r < 7) (hW : c_Wd m lw (sort * 196 + (l * 7 + r) * 4)) : ∃ m', y_V sp ph (d + 3) 103 [y_bo 1 0 6, y_bo 0 0 b, y_bi (sort : Int), y_bi (l : Int), y_bi (r : Int)] m = y_rV m' ∧ q_F (fun a _ => a = 7) m m' ∧ c_Wd m' lw (sort * 196 + (l * 7 + r) * 4 + 4) ∧ (∀ x k, y_mI m' x k = y_mI m x k) := by
  obtain ⟨m1, a1, a2, a3, a4⟩ := l_103 (sp := sp) (ph := ph) (d := d) (row := false) (ac := false) hw h2 hs hl hr hW
  obtain ⟨m2, b1, b2, b3, b4⟩ := l_103 (sp := sp) (ph := ph) (d := d) (m := m1) (row := false) (ac := true) (by rw [a4]; exact hw) h2 hs hl hr a3
  obtain ⟨m3, c1, c2, c3, c4⟩ := l_103 (sp := sp) (ph := ph) (d := d) (m := m2) (row := true) (ac := false) (by rw [b4, a4]; exact hw) h2 hs hl hr b3
  obtain ⟨m4, d1, d2, d3, d4⟩ := l_103 (sp := sp) (ph := ph) (d := d) (m := m3) (row := true) (ac := true) (by rw [c4, b4, a4]; exact hw) h2 hs hl hr c3
  refine ⟨m4, ?_, q_F_trans a2 (q_F_trans b2 (q_F_trans c2 d2)), d3, fun x k => by rw [d4, c4, b4, a4]⟩
  have a1' : y_R sp ph (d + 2) 103 12 [some (y_bo 1 0 6), some (y_bo 0 0 b), some (y_bi (sort : Int)), some (y_bi (l : Int)), some (y_bi (r : Int)), some (y_bi 0), some (y_bi 0), none, none] [] m = y_R sp ph (d + 2) 103 12 [some (y_bo 1 0 6), some (y_bo 0 0 b), some (y_bi (sort : Int)), some (y_bi (l : Int)), some (y_bi (r : Int)), some (y_bi 0), some (y_bi 1), none, none] [] m1 := a1
  have b1' : y_R sp ph (d + 2) 103 12 [some (y_bo 1 0 6), some (y_bo 0 0 b), some (y_bi (sort : Int)), some (y_bi (l : Int)), some (y_bi (r : Int)), some (y_bi 0), some (y_bi 1), none, none] [] m1 = y_R sp ph (d + 2) 103 12 [some (y_bo 1 0 6), some (y_bo 0 0 b), some (y_bi (sort : Int)), some (y_bi (l : Int)), some (y_bi (r : Int)), some (y_bi 0), some (y_bi 2), none, none] [] m2 := b1
  have c1' : y_R sp ph (d + 2) 103 12 [some (y_bo 1 0 6), some (y_bo 0 0 b), some (y_bi (sort : Int)), some (y_bi (l : Int)), some (y_bi (r : Int)), some (y_bi 1), some (y_bi 0), none, none] [] m2 = y_R sp ph (d + 2) 103 12 [some (y_bo 1 0 6), some (y_bo 0 0 b), some (y_bi (sort : Int)), some (y_bi (l : Int)), some (y_bi (r : Int)), some (y_bi 1), some (y_bi 1), none, none] [] m3 := c1
  have d1' : y_R sp ph (d + 2) 103 12 [some (y_bo 1 0 6), some (y_bo 0 0 b), some (y_bi (sort : Int)), some (y_bi (l : Int)), some (y_bi (r : Int)), some (y_bi 1), some (y_bi 1), none, none] [] m3 = y_R sp ph (d + 2) 103 12 [some (y_bo 1 0 6), some (y_bo 0 0 b), some (y_bi (sort : Int)), some (y_bi (l : Int)), some (y_bi (r : Int)), some (y_bi 1), some (y_bi 2), none, none] [] m4 := d1
  have ex : ∀ (x : Int) (m : y_m), y_R sp ph (d + 2) 103 12 [some (y_bo 1 0 6), some (y_bo 0 0 b), some (y_bi (sort : Int)), some (y_bi (l : Int)), some (y_bi (r : Int)), some (y_bi x), some (y_bi 2), none, none] [] m = y_R sp ph (d + 2) 103 3 [some (y_bo 1 0 6), some (y_bo 0 0 b), some (y_bi (sort : Int)), some (y_bi (l : Int)), some (y_bi (r : Int)), some (y_bi (x + 1)), none, none, none] [] m := by
    intro x m
    rw [y_E_103_12]
    simp (disch := omega) only [z_w_id, if_pos, if_neg, e_g, e_bI, e_bV, e_bL, e_II, e_II', e_IJ, e_JI, e_JJ, e_JJ', reduceIte, not_true_eq_false, not_false_eq_true, true_or, or_true, true_and, and_true, e_nb0, e_gT, y_E_103_81]
  have en : ∀ (x : Int) (m : y_m), 0 ≤ x → x < 2 → y_R sp ph (d + 2) 103 3 [some (y_bo 1 0 6), some (y_bo 0 0 b), some (y_bi (sort : Int)), some (y_bi (l : Int)), some (y_bi (r : Int)), some (y_bi x), none, none, none] [] m = y_R sp ph (d + 2) 103 12 [some (y_bo 1 0 6), some (y_bo 0 0 b), some (y_bi (sort : Int)), some (y_bi (l : Int)), some (y_bi (r : Int)), some (y_bi x), some (y_bi 0), none, none] [] m := by
    intro x m h1 h2
    rw [y_E_103_3]
    simp (disch := omega) only [z_w_id, if_pos, if_neg, e_g, e_bI, e_bV, e_bL, e_II, e_II', e_IJ, e_JI, e_JJ, e_JJ', reduceIte, not_true_eq_false, not_false_eq_true, true_or, or_true, true_and, and_true, e_nb0, e_gT]
  simp only [y_C_103, y_E_103_0]
  rw [en 0 m (by decide) (by decide), a1', b1', ex, en (0 + 1) m2 (by decide) (by decide)]
  erw [c1']
  rw [d1', ex, y_E_103_3]
  simp (disch := omega) only [z_w_id, if_pos, if_neg, e_g, e_bI, e_bV, e_bL, e_II, e_II', e_IJ, e_JI, e_JJ, e_JJ', reduceIte, not_true_eq_false, not_false_eq_true, true_or, or_true, true_and, and_true, e_nb0, e_gT, y_E_103_87]
end Words
