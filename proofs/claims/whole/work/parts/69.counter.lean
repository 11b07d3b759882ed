/-! ===== the class's counter ===== -/
theorem w_low_64 : ∀ x, x < 64 → ∀ y, y < 64 → 0 < 64 * x + y → ((64 * x + y) &&& (64 * x + y - 1)) = w_rm (64 * x + y) (n_low (64 * x + y)) := by decide +kernel
theorem w_low_64b : ∀ x, x < 64 → ∀ y, y < 64 → 0 < 64 * x + y → n_low (64 * x + y) < 12 ∧ (64 * x + y).testBit (n_low (64 * x + y)) = true := by decide +kernel
theorem w_low_64c : ∀ x, x < 64 → ∀ y, y < 64 → (List.range 12).all (fun i => !decide (i < n_low (64 * x + y)) || !(64 * x + y).testBit i) = true := by decide +kernel
theorem w_low {x : Nat} (h : x < 4096) (h' : 0 < x) : (x &&& (x - 1)) = w_rm x (n_low x) ∧ n_low x < 12 ∧ x.testBit (n_low x) = true ∧ ∀ i, i < 12 → i < n_low x → x.testBit i = false := by
  have e := w_low_64 (x / 64) (by omega) (x % 64) (by omega)
  have e2 := w_low_64b (x / 64) (by omega) (x % 64) (by omega)
  have e3 := w_low_64c (x / 64) (by omega) (x % 64) (by omega)
  rw [show 64 * (x / 64) + x % 64 = x by omega] at e e2 e3
  refine ⟨e h', (e2 h').1, (e2 h').2, fun i h1 h2 => ?_⟩
  have := List.all_eq_true.mp e3 i (List.mem_range.mpr h1)
  rw [decide_eq_true h2] at this
  simpa using this
theorem n_pop_c {x : Nat} (h : x < 4096) : (n_pop x : Int) = c_c (fun k => x.testBit k) := (n_pop_eq x h).symm
theorem n_pop_rm {x h : Nat} (hx : x < 4096) (hb : x.testBit h = true) : n_pop (w_rm x h) + 1 = n_pop x := by
  have hh : h < 12 := by
    rcases Nat.lt_or_ge h 12 with q | q
    · exact q
    · rw [Nat.testBit_lt_two_pow (Nat.lt_of_lt_of_le hx (Nat.pow_le_pow_right (n := 2) (by decide) q))] at hb; cases hb
  have a := n_pop_c hx
  have b := n_pop_c (Nat.lt_of_le_of_lt (w_rm_le x h) hx)
  rw [c_c_rm (p := fun k => x.testBit k) hh (fun j => w_rm_bit x h j), hb] at b
  have : n_b true = 1 := rfl
  omega
theorem n_pop_0 {x : Nat} (hx : x < 4096) (h : n_pop x = 0) : x = 0 := by
  rcases Nat.eq_zero_or_pos x with q | q
  · exact q
  · have := n_pop_rm hx (w_low hx q).2.2.1
    omega
theorem n_pop_pos {x : Nat} (hx : x < 4096) (h : x ≠ 0) : 0 < n_pop x := by
  rcases Nat.eq_zero_or_pos (n_pop x) with q | q
  · exact absurd (n_pop_0 hx q) h
  · exact q
theorem c_cL : ∀ L, L < 7 → c_c (fun h => decide (h < L)) = L ∧ ∀ R, R < 7 → c_c (fun h => !decide (h < L) && decide (h < L + R)) = R := by decide
theorem c_sort : ∀ a b c : Bool, (a.toNat * 4 + b.toNat * 2 + c.toNat).testBit 2 = a ∧ (a.toNat * 4 + b.toNat * 2 + c.toNat).testBit 1 = b ∧ (a.toNat * 4 + b.toNat * 2 + c.toNat).testBit 0 = c ∧ a.toNat * 4 + b.toNat * 2 + c.toNat < 8 := by decide
/-- what goes on from a hole: the first step, a later one -/
def c_f1 (L lw s rest h : Nat) : Int := if rest.testBit h = true then c_N L lw s h (r_x L s h) (n_pop rest - 1) h (r_x L s h) (w_rm rest h) else 0
def c_f2 (L lw s sec : Nat) (first : Bool) (rest last : Nat) (i : Bool) (h : Nat) : Int := if rest.testBit h = true ∧ r_may lw i (r_x L last h) = true then c_N L lw s sec first (n_pop rest - 1) h (r_x L last h) (w_rm rest h) else 0
theorem c_N_f2 {L lw s sec : Nat} {first : Bool} {now rest : Nat} {i : Bool} (h : 0 < n_pop rest) : c_N L lw s sec first (n_pop rest) now i rest = q_S (c_f2 L lw s sec first rest now i) 0 12 := by
  obtain ⟨f, hf⟩ : ∃ f, n_pop rest = f + 1 := ⟨n_pop rest - 1, by omega⟩
  rw [hf, c_N]
  refine q_S_congr 12 0 fun j _ _ => ?_
  unfold c_f2
  rw [hf, Nat.add_sub_cancel]
def c_cnt (L lw S : Nat) : Int := q_S (c_f1 L lw (n_low S) (w_rm S (n_low S))) 0 12
section Counter
variable {sp : Nat → Nat} {ph : Bool} {d : Nat} {m : y_m} {b L R lw s sec : Nat} {first : Bool}
theorem l_102c {sort l : Nat} (hw : y_mI m b 5 = (lw : Int)) (h2 : lw ≤ 2) (hs : sort < 8) (hl : l < 7) : ∀ (n r : Nat) (m : y_m), r + n = 7 → y_mI m b 5 = (lw : Int) → c_Wd m lw (sort * 196 + (l * 7 + r) * 4) → ∃ m', y_R sp ph (d + 3) 102 27 [some (y_bo 1 0 6), some (y_bo 0 0 b), some (y_bi (sort : Int)), some (y_bi (l : Int)), some (y_bi (r : Int))] [] m = y_R sp ph (d + 3) 102 18 [some (y_bo 1 0 6), some (y_bo 0 0 b), some (y_bi (sort : Int)), some (y_bi ((l : Int) + 1)), none] [] m' ∧ q_F (fun a _ => a = 7) m m' ∧ c_Wd m' lw (sort * 196 + (l * 7 + 7) * 4) ∧ (∀ x k, y_mI m' x k = y_mI m x k) := by
  intro n
  induction n with
  | zero =>
    intro r m hr hw hW
    have : r = 7 := by omega
    subst this
    refine ⟨m, ?_, q_F_refl, hW, fun _ _ => rfl⟩
    rw [y_E_102_27]
    simp (disch := omega) only [z_w_id, if_pos, if_neg, e_g, e_bI, e_bV, e_bL, e_II, e_II', e_IJ, e_JI, e_JJ, e_JJ', reduceIte, not_true_eq_false, not_false_eq_true, true_or, or_true, true_and, and_true, e_nb0, e_gT, y_E_102_49]
  | succ n ih =>
    intro r m hr hw hW
    obtain ⟨m1, a1, a2, a3, a4⟩ := s_103 (sp := sp) (ph := ph) (d := d) (m := m) (r := r) hw h2 hs hl (by omega) hW
    obtain ⟨m2, b1, b2, b3, b4⟩ := ih (r + 1) m1 (by omega) (by rw [a4]; exact hw) (fun i hi => a3 i (by omega))
    refine ⟨m2, ?_, q_F_trans a2 b2, b3, fun x k => by rw [b4, a4]⟩
    rw [y_E_102_27]
    simp (disch := omega) only [z_w_id, if_pos, if_neg, e_g, e_bI, e_bV, e_bL, e_II, e_II', e_IJ, e_JI, e_JJ, e_JJ', reduceIte, not_true_eq_false, not_false_eq_true, true_or, or_true, true_and, and_true, e_nb0, e_gT, a1]
    exact b1
theorem l_102b {sort : Nat} (h2 : lw ≤ 2) (hs : sort < 8) : ∀ (n l : Nat) (m : y_m), l + n = 7 → y_mI m b 5 = (lw : Int) → c_Wd m lw (sort * 196 + l * 28) → ∃ m', y_R sp ph (d + 3) 102 18 [some (y_bo 1 0 6), some (y_bo 0 0 b), some (y_bi (sort : Int)), some (y_bi (l : Int)), none] [] m = y_R sp ph (d + 3) 102 10 [some (y_bo 1 0 6), some (y_bo 0 0 b), some (y_bi ((sort : Int) + 1)), none, none] [] m' ∧ q_F (fun a _ => a = 7) m m' ∧ c_Wd m' lw ((sort + 1) * 196) ∧ (∀ x k, y_mI m' x k = y_mI m x k) := by
  intro n
  induction n with
  | zero =>
    intro l m hl hw hW
    have : l = 7 := by omega
    subst this
    refine ⟨m, ?_, q_F_refl, fun i hi => hW i (by omega), fun _ _ => rfl⟩
    rw [y_E_102_18]
    simp (disch := omega) only [z_w_id, if_pos, if_neg, e_g, e_bI, e_bV, e_bL, e_II, e_II', e_IJ, e_JI, e_JJ, e_JJ', reduceIte, not_true_eq_false, not_false_eq_true, true_or, or_true, true_and, and_true, e_nb0, e_gT, y_E_102_55]
  | succ n ih =>
    intro l m hl hw hW
    obtain ⟨m1, a1, a2, a3, a4⟩ := l_102c (sp := sp) (ph := ph) (d := d) (m := m) (l := l) hw h2 hs (by omega) 7 0 m (by omega) hw (fun i hi => hW i (by omega))
    obtain ⟨m2, b1, b2, b3, b4⟩ := ih (l + 1) m1 (by omega) (by rw [a4]; exact hw) (fun i hi => a3 i (by omega))
    refine ⟨m2, ?_, q_F_trans a2 b2, b3, fun x k => by rw [b4, a4]⟩
    have a1' : y_R sp ph (d + 3) 102 27 [some (y_bo 1 0 6), some (y_bo 0 0 b), some (y_bi (sort : Int)), some (y_bi (l : Int)), some (y_bi 0)] [] m = _ := a1
    rw [y_E_102_18]
    simp (disch := omega) only [z_w_id, if_pos, if_neg, e_g, e_bI, e_bV, e_bL, e_II, e_II', e_IJ, e_JI, e_JJ, e_JJ', reduceIte, not_true_eq_false, not_false_eq_true, true_or, or_true, true_and, and_true, e_nb0, e_gT]
    rw [a1']
    exact b1
theorem l_102a (h2 : lw ≤ 2) : ∀ (n sort : Nat) (m : y_m), sort + n = 8 → y_mI m b 5 = (lw : Int) → c_Wd m lw (sort * 196) → ∃ m', y_R sp ph (d + 3) 102 10 [some (y_bo 1 0 6), some (y_bo 0 0 b), some (y_bi (sort : Int)), none, none] [] m = y_rV m' ∧ q_F (fun a _ => a = 7) m m' ∧ c_Wd m' lw 1568 ∧ (∀ x k, y_mI m' x k = y_mI m x k) := by
  intro n
  induction n with
  | zero =>
    intro sort m hl hw hW
    have : sort = 8 := by omega
    subst this
    refine ⟨m, ?_, q_F_refl, fun i hi => hW i (by omega), fun _ _ => rfl⟩
    rw [y_E_102_10]
    simp (disch := omega) only [z_w_id, if_pos, if_neg, e_g, e_bI, e_bV, e_bL, e_II, e_II', e_IJ, e_JI, e_JJ, e_JJ', reduceIte, not_true_eq_false, not_false_eq_true, true_or, or_true, true_and, and_true, e_nb0, e_gT, y_E_102_61]
  | succ n ih =>
    intro sort m hl hw hW
    obtain ⟨m1, a1, a2, a3, a4⟩ := l_102b (sp := sp) (ph := ph) (d := d) (sort := sort) (b := b) h2 (by omega) 7 0 m (by omega) hw (fun i hi => hW i (by omega))
    obtain ⟨m2, b1, b2, b3, b4⟩ := ih (sort + 1) m1 (by omega) (by rw [a4]; exact hw) a3
    refine ⟨m2, ?_, q_F_trans a2 b2, b3, fun x k => by rw [b4, a4]⟩
    have a1' : y_R sp ph (d + 3) 102 18 [some (y_bo 1 0 6), some (y_bo 0 0 b), some (y_bi (sort : Int)), some (y_bi 0), none] [] m = _ := a1
    rw [y_E_102_10]
    simp (disch := omega) only [z_w_id, if_pos, if_neg, e_g, e_bI, e_bV, e_bL, e_II, e_II', e_IJ, e_JI, e_JJ, e_JJ', reduceIte, not_true_eq_false, not_false_eq_true, true_or, or_true, true_and, and_true, e_nb0, e_gT]
    rw [a1']
    exact b1
/-- the words are those of a law, or none are laid -/
def c_Ws (m : y_m) : Prop := y_mI m 6 1 = -1 ∨ ∃ lw : Nat, lw ≤ 2 ∧ y_mI m 6 1 = lw ∧ c_Wd m lw 1568
theorem s_94 {S : Nat} (hb : b ≠ 6) (hw : y_mI m b 5 = (lw : Int)) (h2 : lw ≤ 2) (hS : S < 4096) (hS0 : 0 < S) (hW : c_Ws m) : ∃ m', y_V sp ph (d + 5) 94 [y_bo 1 0 6, y_bo 0 0 b, y_bi (S : Int)] m = y_rI (w_rm S (n_low S) : Int) m' ∧ q_F (fun a k => a = 7 ∨ (a = 6 ∧ (k = 1 ∨ k = 2))) m m' ∧ y_mI m' 6 1 = lw ∧ c_Wd m' lw 1568 ∧ y_mI m' 6 2 = n_low S := by
  have fin : ∀ m1 : y_m, y_R sp ph (d + 4) 94 16 [some (y_bo 1 0 6), none, some (y_bi (S : Int))] [] m1 = y_rI (w_rm S (n_low S) : Int) (y_sI m1 6 2 (n_low S)) := by
    intro m1
    rw [y_E_94_16, s_0 hS hS0, e_bI, show (S : Int) - 1 = ((S - 1 : Nat) : Int) by omega, n_iand (by omega) (by omega), (w_low hS hS0).1]
  rcases hW with q | ⟨lw', q1, q2, q3⟩
  · obtain ⟨m1, a1, a2, a3, a4⟩ := l_102a (sp := sp) (ph := ph) (d := d) (b := b) h2 8 0 (y_sI m 6 1 lw) (by omega) (by rw [e_II' (by omega)]; exact hw) (fun i hi => absurd hi (by omega))
    have a1' : y_R sp ph (d + 3) 102 10 [some (y_bo 1 0 6), some (y_bo 0 0 b), some (y_bi 0), none, none] [] (y_sI m 6 1 lw) = _ := a1
    refine ⟨y_sI m1 6 2 (n_low S), ?_, q_F_trans (q_F_trans (q_F_sI (by omega)) (q_F_mono a2 (fun a k h => Or.inl h))) (q_F_sI (by omega)), ?_, a3, e_II⟩
    · simp (disch := omega) only [y_C_94, y_E_94_0, hw, q, z_w_id, if_pos, if_neg, e_g, e_bI, e_bV, e_bL, e_II, e_II', e_IJ, e_JI, e_JJ, e_JJ', reduceIte, not_true_eq_false, not_false_eq_true, true_or, or_true, true_and, and_true, e_nb0, e_gT, y_C_102, y_E_102_0]
      rw [a1', e_bV, fin]
    · rw [e_II' (by omega), a4, e_II]
  · by_cases c : lw' = lw
    · subst c
      refine ⟨y_sI m 6 2 (n_low S), ?_, q_F_sI (by omega), ?_, q3, e_II⟩
      · simp (disch := omega) only [y_C_94, y_E_94_0, hw, q2, z_w_id, if_pos, if_neg, e_g, e_bI, e_bV, e_bL, e_II, e_II', e_IJ, e_JI, e_JJ, e_JJ', reduceIte, not_true_eq_false, not_false_eq_true, true_or, or_true, true_and, and_true, e_nb0, e_gT]
        exact fin m
      · rw [e_II' (by omega)]; exact q2
    · obtain ⟨m1, a1, a2, a3, a4⟩ := l_102a (sp := sp) (ph := ph) (d := d) (b := b) h2 8 0 (y_sI m 6 1 lw) (by omega) (by rw [e_II' (by omega)]; exact hw) (fun i hi => absurd hi (by omega))
      have a1' : y_R sp ph (d + 3) 102 10 [some (y_bo 1 0 6), some (y_bo 0 0 b), some (y_bi 0), none, none] [] (y_sI m 6 1 lw) = _ := a1
      refine ⟨y_sI m1 6 2 (n_low S), ?_, q_F_trans (q_F_trans (q_F_sI (by omega)) (q_F_mono a2 (fun a k h => Or.inl h))) (q_F_sI (by omega)), ?_, a3, e_II⟩
      · simp (disch := omega) only [y_C_94, y_E_94_0, hw, q2, z_w_id, if_pos, if_neg, e_g, e_bI, e_bV, e_bL, e_II, e_II', e_IJ, e_JI, e_JJ, e_JJ', reduceIte, not_true_eq_false, not_false_eq_true, true_or, or_true, true_and, and_true, e_nb0, e_gT, y_C_102, y_E_102_0]
        rw [a1', e_bV, fin]
      · rw [e_II' (by omega), a4, e_II]
/-- what a count rests on -/
def c_Cx (m : y_m) (b L R lw s sec : Nat) (first : Bool) : Prop := y_mI m b 0 = L ∧ y_mI m b 5 = lw ∧ L ≤ 6 ∧ R ≤ 6 ∧ lw ≤ 2 ∧ c_Wd m lw 1568 ∧ y_mI m 6 2 = s ∧ y_mI m 6 3 = sec ∧ y_mI m 6 4 = n_b first ∧ s < 12 ∧ sec < 12
theorem s_98 {h l r : Nat} {ac lr : Bool} (hc : c_Cx m b L R lw s sec first) (hh : h < 12) (hl : l < 7) (hr : r < 7) : y_V sp ph (d + 2) 98 [y_bo 1 0 6, y_bo 0 0 b, y_bi (h : Int), y_bi (n_b ac), y_bi (l : Int), y_bi (r : Int), y_bi (n_b lr)] m = y_rL (c_W lw (!decide (s < L)) first lr (l + r) l r (!decide (h < L)) ac) m := by
  obtain ⟨g1, g2, g3, g4, g5, g6, g7, g8, g9, g10, g11⟩ := hc
  obtain ⟨t1, t2, t3, t4⟩ := c_sort (!decide (s < L)) first lr
  have e := c_Wd_W (lw := lw) (row := !decide (h < L)) (ac := ac) t4 hl hr
  rw [t1, t2, t3] at e
  have hx : (!decide (h < L)).toNat * 2 + ac.toNat < 4 := by cases decide (h < L) <;> cases ac <;> decide
  have d1 : decide (¬ s < L) = !decide (s < L) := by by_cases q : s < L <;> simp [q]
  have d2 : decide (¬ h < L) = !decide (h < L) := by by_cases q : h < L <;> simp [q]
  simp (disch := omega) only [y_C_98, y_E_98_0, g7, g9, s_43 g1 g3, e_bI, s_100, s_101, d1, d2]
  have ei : ((n_b (!decide (s < L)) * 4 + n_b first * 2 + n_b lr) * 196 + ((l : Int) * 7 + (r : Int)) * 4 + n_b (!decide (h < L)) * 2 + n_b ac) = (((!decide (s < L)).toNat * 4 + first.toNat * 2 + lr.toNat) * 196 + (l * 7 + r) * 4 + (!decide (h < L)).toNat * 2 + ac.toNat : Nat) := by
    simp only [n_b_nat]; omega
  rw [ei, s_9 (by omega) (by omega) (by omega), e_bL, Int.toNat_natCast, g6 _ (by omega), e]
theorem s_97 {h rest : Nat} {i : Bool} (hc : c_Cx m b L R lw s sec first) (hh : h < 12) (hr : rest < 4096) (hR : ∀ j, rest.testBit j = true → j < L + R) : y_V sp ph (d + 3) 97 [y_bo 1 0 6, y_bo 0 0 b, y_bi (h : Int), y_bi (n_b i), y_bi (rest : Int)] m = y_rL (c_N L lw s sec first (n_pop rest) h i rest) m := by
  have hc' := hc
  obtain ⟨g1, g2, g3, g4, g5, g6, g7, g8, g9, g10, g11⟩ := hc'
  by_cases h0 : rest = 0
  · subst h0
    have e0 : n_pop 0 = 0 := by decide
    rw [e0, c_N]
    simp (disch := omega) only [y_C_97, y_E_97_0, z_w_id, if_pos, if_neg, e_g, e_bI, e_bV, e_bL, e_II, e_II', e_IJ, e_JI, e_JJ, e_JJ', reduceIte, not_true_eq_false, not_false_eq_true, true_or, or_true, true_and, and_true, e_nb0, e_gT, g7, g8, g9, s_45 g1 g3, s_46 g2 g5, y_E_97_43, y_E_97_44]
    by_cases c : sec < h
    · cases r_may lw i (r_x L h s) <;> cases r_may lw (r_x L h s) first <;> simp (disch := omega) [c, y_E_97_63, y_E_97_64, z_w_id] <;> omega
    · cases r_may lw i (r_x L h s) <;> cases r_may lw (r_x L h s) first <;> simp (disch := omega) [c, y_E_97_63, y_E_97_64, z_w_id] <;> omega
  · have hL : 2 ^ L ≤ 2 ^ 6 := Nat.pow_le_pow_right (by decide) g3
    have hLp : 0 < 2 ^ L := Nat.pow_pos (by decide)
    have a1 : rest &&& (2 ^ L - 1) ≤ rest := Nat.and_le_left
    have a2 := n_bd_le rest (2 ^ L - 1)
    have hla : (rest >>> (sec + 1)) <<< (sec + 1) ≤ rest := by
      rw [Nat.shiftLeft_eq, Nat.shiftRight_eq_div_pow]; exact Nat.div_mul_le_self _ _
    have hsr : rest >>> (sec + 1) ≤ rest := Nat.shiftRight_le _ _
    have a3 : (rest >>> (sec + 1)) <<< (sec + 1) &&& (2 ^ L - 1) ≤ (rest >>> (sec + 1)) <<< (sec + 1) := Nat.and_le_left
    have a4 := n_bd_le ((rest >>> (sec + 1)) <<< (sec + 1)) (2 ^ L - 1)
    have bl : ∀ j, ((rest >>> (sec + 1)) <<< (sec + 1)).testBit j = (rest.testBit j && decide (sec < j)) := by
      intro j
      rw [Nat.testBit_shiftLeft, Nat.testBit_shiftRight]
      by_cases q : sec < j
      · rw [show sec + 1 + (j - (sec + 1)) = j by omega]; simp [q]; omega
      · have q2 : ¬ sec + 1 ≤ j := by omega
        simp [q, q2]
    have pl : (n_pop (rest &&& (2 ^ L - 1)) : Int) = c_c (c_lf L rest) := by
      rw [n_pop_c (by omega)]
      exact q_S_congr _ _ (fun j _ _ => by unfold c_lf; dsimp only; rw [Nat.testBit_and, Nat.testBit_two_pow_sub_one])
    have pr : (n_pop (n_bd rest (2 ^ L - 1)) : Int) = c_c (c_rg L rest) := by
      rw [n_pop_c (by omega)]
      exact q_S_congr _ _ (fun j _ _ => by unfold c_rg; dsimp only; rw [n_bd_bit, Nat.testBit_two_pow_sub_one])
    have pa : (n_pop ((rest >>> (sec + 1)) <<< (sec + 1) &&& (2 ^ L - 1)) : Int) = c_c (fun j => c_lf L rest j && decide (sec < j)) := by
      rw [n_pop_c (by omega)]
      exact q_S_congr _ _ (fun j _ _ => by unfold c_lf; dsimp only; rw [Nat.testBit_and, Nat.testBit_two_pow_sub_one, bl]; cases rest.testBit j <;> cases decide (sec < j) <;> simp)
    have pb : (n_pop (n_bd ((rest >>> (sec + 1)) <<< (sec + 1)) (2 ^ L - 1)) : Int) = c_c (fun j => c_rg L rest j && decide (sec < j)) := by
      rw [n_pop_c (by omega)]
      exact q_S_congr _ _ (fun j _ _ => by unfold c_rg; dsimp only; rw [n_bd_bit, Nat.testBit_two_pow_sub_one, bl]; cases rest.testBit j <;> cases decide (sec < j) <;> simp)
    have psum : c_c (c_lf L rest) + c_c (c_rg L rest) = n_pop rest := by
      rw [n_pop_c hr]
      show q_S _ 0 12 + q_S _ 0 12 = q_S _ 0 12
      rw [← q_S_add]
      exact q_S_congr _ _ (fun j _ _ => by unfold c_lf c_rg; dsimp only; cases rest.testBit j <;> cases decide (j < L) <;> rfl)
    have ll : c_c (c_lf L rest) ≤ L := by
      have := c_c_le (fun j => decide (j < L)) (fun j => rest.testBit j)
      rw [(c_cL L (by omega)).1] at this
      have e : c_c (fun h => decide (h < L) && rest.testBit h) = c_c (c_lf L rest) := q_S_congr _ _ (fun j _ _ => by unfold c_lf; dsimp only; cases rest.testBit j <;> cases decide (j < L) <;> rfl)
      rw [e] at this
      exact this
    have rr : c_c (c_rg L rest) ≤ R := by
      have := c_c_le (fun j => !decide (j < L) && decide (j < L + R)) (fun j => rest.testBit j)
      rw [(c_cL L (by omega)).2 R (by omega)] at this
      have e : c_c (fun h => (!decide (h < L) && decide (h < L + R)) && rest.testBit h) = c_c (c_rg L rest) := q_S_congr _ _ (fun j _ _ => by
        unfold c_rg
        dsimp only
        cases q : rest.testBit j
        · simp
        · have := hR j q
          simp [this])
      rw [e] at this
      exact this
    have hpp := n_pop_pos hr h0
    have la := c_c_le (c_lf L rest) (fun h => decide (sec < h))
    have lb := c_c_le (c_rg L rest) (fun h => decide (sec < h))
    have la0 := c_c_nonneg (fun h => c_lf L rest h && decide (sec < h))
    have lb0 := c_c_nonneg (fun h => c_rg L rest h && decide (sec < h))
    have NG := c_NG (L := L) (lw := lw) (s := s) (sec := sec) (first := first) (n_pop rest - 1) h rest i (n_pop (rest &&& (2 ^ L - 1))) (n_pop (n_bd rest (2 ^ L - 1))) _ _ hr (by omega) pl.symm pr.symm rfl rfl
    rw [show n_pop rest - 1 + 1 = n_pop rest by omega] at NG
    rw [NG]
    unfold c_G
    have e1 : z_iand (rest : Int) (z_ishl 1 (y_mI m b 0) - 1) = ((rest &&& (2 ^ L - 1) : Nat) : Int) := by
      rw [g1, n_one (by omega), show ((2 ^ L : Nat) : Int) - 1 = ((2 ^ L - 1 : Nat) : Int) by omega, n_iand (by omega) (by omega)]
    have e2 : z_iand (rest : Int) (z_ixor (z_ishl 1 (y_mI m b 0) - 1) (-1)) = ((n_bd rest (2 ^ L - 1) : Nat) : Int) := by
      rw [g1, n_one (by omega), show ((2 ^ L : Nat) : Int) - 1 = ((2 ^ L - 1 : Nat) : Int) by omega, n_not (by omega) (by omega)]
    have e0 : z_ishl (z_ishr (rest : Int) (y_mI m 6 3 + 1)) (y_mI m 6 3 + 1) = (((rest >>> (sec + 1)) <<< (sec + 1) : Nat) : Int) := by
      rw [g8, show (sec : Int) + 1 = ((sec + 1 : Nat) : Int) by omega, n_ishr (by omega) (by omega), n_ishl (by omega) (by omega)]
    have e3 : z_iand (z_ishl (z_ishr (rest : Int) (y_mI m 6 3 + 1)) (y_mI m 6 3 + 1)) (z_ishl 1 (y_mI m b 0) - 1) = (((rest >>> (sec + 1)) <<< (sec + 1) &&& (2 ^ L - 1) : Nat) : Int) := by
      rw [e0, g1, n_one (by omega), show ((2 ^ L : Nat) : Int) - 1 = ((2 ^ L - 1 : Nat) : Int) by omega, n_iand (by omega) (by omega)]
    have e4 : z_iand (z_ishl (z_ishr (rest : Int) (y_mI m 6 3 + 1)) (y_mI m 6 3 + 1)) (z_ixor (z_ishl 1 (y_mI m b 0) - 1) (-1)) = ((n_bd ((rest >>> (sec + 1)) <<< (sec + 1)) (2 ^ L - 1) : Nat) : Int) := by
      rw [e0, g1, n_one (by omega), show ((2 ^ L : Nat) : Int) - 1 = ((2 ^ L - 1 : Nat) : Int) by omega, n_not (by omega) (by omega)]
    have w0 := s_98 (sp := sp) (ph := ph) (d := d) (h := h) (l := n_pop (rest &&& (2 ^ L - 1))) (r := n_pop (n_bd rest (2 ^ L - 1))) (ac := i) (lr := false) hc hh (by omega) (by omega)
    have w1 := s_98 (sp := sp) (ph := ph) (d := d) (h := h) (l := n_pop (rest &&& (2 ^ L - 1))) (r := n_pop (n_bd rest (2 ^ L - 1))) (ac := i) (lr := true) hc hh (by omega) (by omega)
    have elr : n_pop (rest &&& (2 ^ L - 1)) + n_pop (n_bd rest (2 ^ L - 1)) = n_pop rest := by omega
    rw [elr] at w0 w1
    have w0' : y_V sp ph (d + 2) 98 [y_bo 1 0 6, y_bo 0 0 b, y_bi (h : Int), y_bi (n_b i), y_bi (n_pop (rest &&& (2 ^ L - 1)) : Int), y_bi (n_pop (n_bd rest (2 ^ L - 1)) : Int), y_bi 0] m = _ := w0
    have w1' : y_V sp ph (d + 2) 98 [y_bo 1 0 6, y_bo 0 0 b, y_bi (h : Int), y_bi (n_b i), y_bi (n_pop (rest &&& (2 ^ L - 1)) : Int), y_bi (n_pop (n_bd rest (2 ^ L - 1)) : Int), y_bi 1] m = _ := w1
    have t1 : ∀ n : Nat, n < 7 → ((n : Int) - 1).toNat = n - 1 := fun n _ => by omega
    simp (disch := omega) only [y_C_97, y_E_97_0, z_w_id, if_pos, if_neg, e_g, e_bI, e_bV, e_bL, e_II, e_II', e_IJ, e_JI, e_JJ, e_JJ', reduceIte, not_true_eq_false, not_false_eq_true, true_or, or_true, true_and, and_true, e_nb0, e_gT, y_E_97_65, e1, e2, e3, e4, s_1, s_99, w0', w1', Int.toNat_natCast, t1]
    rw [pa, pb]
theorem s_95a {i : Bool} {h : Int} : y_V sp ph (d + 3) 95 [y_bo 1 0 6, y_bo 0 0 b, y_bi (n_b i), y_bi h] m = y_rV m := by
  have hi := n_b_r (b := i)
  simp (disch := omega) only [y_C_95, y_E_95_0, y_E_95_23, z_w_id, if_pos, if_neg, e_g, e_bI, e_bV, e_bL, e_II, e_II', e_IJ, e_JI, e_JJ, e_JJ', reduceIte, not_true_eq_false, not_false_eq_true, true_or, or_true, true_and, and_true, e_nb0, e_gT]
theorem s_95b {h : Nat} (hb : b ≠ 6) (hL : y_mI m b 0 = L) (h6 : L ≤ 6) (hs : y_mI m 6 2 = s) (hs' : s < 12) (hh : h < 12) : y_V sp ph (d + 3) 95 [y_bo 1 0 6, y_bo 0 0 b, y_bi (-1), y_bi (h : Int)] m = y_rV (y_sI (y_sI m 6 3 h) 6 4 (n_b (r_x L s h))) := by
  have hL' : y_mI (y_sI m 6 3 h) b 0 = L := by rw [e_II' (by omega)]; exact hL
  simp (disch := omega) only [y_C_95, y_E_95_0, y_E_95_23, z_w_id, if_pos, if_neg, e_g, e_bI, e_bV, e_bL, e_II, e_II', e_IJ, e_JI, e_JJ, e_JJ', reduceIte, not_true_eq_false, not_false_eq_true, true_or, or_true, true_and, and_true, e_nb0, e_gT, hs, s_45 hL' h6]
theorem s_96a {h rest last : Nat} {i : Bool} (hc : c_Cx m b L R lw s sec first) (hh : h ≤ 12) (hl : last < 12) (hr : rest < 4096) (hR : ∀ j, rest.testBit j = true → j < L + R) : y_V sp ph (d + 4) 96 [y_bo 1 0 6, y_bo 0 0 b, y_bi (last : Int), y_bi (n_b i), y_bi (h : Int), y_bi (rest : Int)] m = y_rL (c_f2 L lw s sec first rest last i h) m := by
  have hc' := hc
  obtain ⟨g1, g2, g3, g4, g5, g6, g7, g8, g9, g10, g11⟩ := hc'
  have hi := n_b_r (b := i)
  unfold c_f2
  by_cases c : rest.testBit h = true
  · have hh' : h < 12 := by
      rcases Nat.lt_or_ge h 12 with q | q
      · exact q
      · rw [Nat.testBit_lt_two_pow (Nat.lt_of_lt_of_le hr (Nat.pow_le_pow_right (n := 2) (by decide) q))] at c; cases c
    have hle := w_rm_le rest h
    have hpw : 2 ^ h ≤ 2 ^ 11 := Nat.pow_le_pow_right (by decide) (by omega)
    have erm : z_iand (rest : Int) (z_ixor (z_ishl 1 (h : Int)) (-1)) = (w_rm rest h : Int) := by
      rw [n_one (by omega), n_not (by omega) (by omega)]; rfl
    have := n_pop_rm hr c
    simp (disch := omega) only [y_C_96, y_E_96_0, z_w_id, if_pos, if_neg, e_g, e_bI, e_bV, e_bL, e_II, e_II', e_IJ, e_JI, e_JJ, e_JJ', reduceIte, not_true_eq_false, not_false_eq_true, true_or, or_true, true_and, and_true, e_nb0, e_gT, n_bit, c, y_E_96_19, s_95a, s_45 g1 g3, s_46 g2 g5, y_E_96_53, erm, s_97 hc hh' (Nat.lt_of_le_of_lt hle hr) (fun j hj => hR j (by rw [w_rm_bit] at hj; exact (Bool.and_eq_true _ _ ▸ hj).1)), show n_pop (w_rm rest h) = n_pop rest - 1 by omega]
    cases r_may lw i (r_x L last h) <;> simp
  · rw [if_neg (fun q => c q.1)]
    by_cases q : h = 12
    · subst q
      simp (disch := omega) only [y_C_96, y_E_96_0, z_w_id, if_pos, if_neg, e_g, e_bI, e_bV, e_bL, e_II, e_II', e_IJ, e_JI, e_JJ, e_JJ', reduceIte, not_true_eq_false, not_false_eq_true, true_or, or_true, true_and, and_true, e_nb0, e_gT, y_E_96_17]
    · simp (disch := omega) only [y_C_96, y_E_96_0, z_w_id, if_pos, if_neg, e_g, e_bI, e_bV, e_bL, e_II, e_II', e_IJ, e_JI, e_JJ, e_JJ', reduceIte, not_true_eq_false, not_false_eq_true, true_or, or_true, true_and, and_true, e_nb0, e_gT, n_bit, c, y_E_96_17]
      simp
/-- what a count rests on, before the second hole is settled -/
def c_Cy (m : y_m) (b L R lw s : Nat) : Prop := y_mI m b 0 = L ∧ y_mI m b 5 = lw ∧ L ≤ 6 ∧ R ≤ 6 ∧ lw ≤ 2 ∧ c_Wd m lw 1568 ∧ y_mI m 6 2 = s ∧ s < 12
theorem c_Cy_of (h : c_Cy m b L R lw s) (hs : y_mI m 6 3 = sec) (hf : y_mI m 6 4 = n_b first) (h12 : sec < 12) : c_Cx m b L R lw s sec first := ⟨h.1, h.2.1, h.2.2.1, h.2.2.2.1, h.2.2.2.2.1, h.2.2.2.2.2.1, h.2.2.2.2.2.2.1, hs, hf, h.2.2.2.2.2.2.2, h12⟩
theorem c_Cy_Cx (h : c_Cx m b L R lw s sec first) : c_Cy m b L R lw s := ⟨h.1, h.2.1, h.2.2.1, h.2.2.2.1, h.2.2.2.2.1, h.2.2.2.2.2.1, h.2.2.2.2.2.2.1, h.2.2.2.2.2.2.2.2.2.1⟩
theorem s_96b {h rest : Nat} (hb : b ≠ 6) (hc : c_Cy m b L R lw s) (hh : h ≤ 12) (hr : rest < 4096) (hR : ∀ j, rest.testBit j = true → j < L + R) : ∃ m', y_V sp ph (d + 4) 96 [y_bo 1 0 6, y_bo 0 0 b, y_bi (s : Int), y_bi (-1), y_bi (h : Int), y_bi (rest : Int)] m = y_rL (c_f1 L lw s rest h) m' ∧ q_F (fun a k => a = 6 ∧ (k = 3 ∨ k = 4)) m m' ∧ c_Cy m' b L R lw s := by
  have hc' := hc
  obtain ⟨g1, g2, g3, g4, g5, g6, g7, g10⟩ := hc'
  unfold c_f1
  by_cases c : rest.testBit h = true
  · have hh' : h < 12 := by
      rcases Nat.lt_or_ge h 12 with q | q
      · exact q
      · rw [Nat.testBit_lt_two_pow (Nat.lt_of_lt_of_le hr (Nat.pow_le_pow_right (n := 2) (by decide) q))] at c; cases c
    have hle := w_rm_le rest h
    have hpw : 2 ^ h ≤ 2 ^ 11 := Nat.pow_le_pow_right (by decide) (by omega)
    have erm : z_iand (rest : Int) (z_ixor (z_ishl 1 (h : Int)) (-1)) = (w_rm rest h : Int) := by
      rw [n_one (by omega), n_not (by omega) (by omega)]; rfl
    have hp := n_pop_rm hr c
    have hc1 : c_Cx (y_sI (y_sI m 6 3 h) 6 4 (n_b (r_x L s h))) b L R lw s h (r_x L s h) := by
      refine ⟨?_, ?_, g3, g4, g5, g6, ?_, ?_, ?_, g10, hh'⟩
      · simp (disch := omega) only [z_w_id, if_pos, if_neg, e_g, e_bI, e_bV, e_bL, e_II, e_II', e_IJ, e_JI, e_JJ, e_JJ', reduceIte, not_true_eq_false, not_false_eq_true, true_or, or_true, true_and, and_true, e_nb0, e_gT]; exact g1
      · simp (disch := omega) only [z_w_id, if_pos, if_neg, e_g, e_bI, e_bV, e_bL, e_II, e_II', e_IJ, e_JI, e_JJ, e_JJ', reduceIte, not_true_eq_false, not_false_eq_true, true_or, or_true, true_and, and_true, e_nb0, e_gT]; exact g2
      · simp (disch := omega) only [z_w_id, if_pos, if_neg, e_g, e_bI, e_bV, e_bL, e_II, e_II', e_IJ, e_JI, e_JJ, e_JJ', reduceIte, not_true_eq_false, not_false_eq_true, true_or, or_true, true_and, and_true, e_nb0, e_gT]; exact g7
      · simp (disch := omega) only [z_w_id, if_pos, if_neg, e_g, e_bI, e_bV, e_bL, e_II, e_II', e_IJ, e_JI, e_JJ, e_JJ', reduceIte, not_true_eq_false, not_false_eq_true, true_or, or_true, true_and, and_true, e_nb0, e_gT]
      · simp (disch := omega) only [z_w_id, if_pos, if_neg, e_g, e_bI, e_bV, e_bL, e_II, e_II', e_IJ, e_JI, e_JJ, e_JJ', reduceIte, not_true_eq_false, not_false_eq_true, true_or, or_true, true_and, and_true, e_nb0, e_gT]
    refine ⟨y_sI (y_sI m 6 3 h) 6 4 (n_b (r_x L s h)), ?_, q_F_trans (q_F_sI (by omega)) (q_F_sI (by omega)), c_Cy_Cx hc1⟩
    rw [if_pos c]
    simp (disch := omega) only [y_C_96, y_E_96_0, z_w_id, if_pos, if_neg, e_g, e_bI, e_bV, e_bL, e_II, e_II', e_IJ, e_JI, e_JJ, e_JJ', reduceIte, not_true_eq_false, not_false_eq_true, true_or, or_true, true_and, and_true, e_nb0, e_gT, n_bit, c, y_E_96_19, s_95b hb g1 g3 g7 g10 hh', s_45 hc1.1 g3, y_E_96_53, erm, s_97 hc1 hh' (Nat.lt_of_le_of_lt hle hr) (fun j hj => hR j (by rw [w_rm_bit] at hj; exact (Bool.and_eq_true _ _ ▸ hj).1)), show n_pop (w_rm rest h) = n_pop rest - 1 by omega]
  · rw [if_neg c]
    refine ⟨m, ?_, q_F_refl, hc⟩
    by_cases q : h = 12
    · subst q
      simp (disch := omega) only [y_C_96, y_E_96_0, z_w_id, if_pos, if_neg, e_g, e_bI, e_bV, e_bL, e_II, e_II', e_IJ, e_JI, e_JJ, e_JJ', reduceIte, not_true_eq_false, not_false_eq_true, true_or, or_true, true_and, and_true, e_nb0, e_gT, y_E_96_17]
    · simp (disch := omega) only [y_C_96, y_E_96_0, z_w_id, if_pos, if_neg, e_g, e_bI, e_bV, e_bL, e_II, e_II', e_IJ, e_JI, e_JJ, e_JJ', reduceIte, not_true_eq_false, not_false_eq_true, true_or, or_true, true_and, and_true, e_nb0, e_gT, n_bit, c, y_E_96_17]
      simp
end Counter
