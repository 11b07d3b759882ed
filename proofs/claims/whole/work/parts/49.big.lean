/-! ===== what a method leaves as it was; rows of digits as numbers ===== -/
def q_F (S : Nat → Nat → Prop) (m m' : y_m) : Prop := m'.1 = m.1 ∧ m'.2.1 = m.2.1 ∧ y_mc m' = y_mc m ∧ y_mx m' = y_mx m ∧ (∀ a k, ¬ S a k → y_mI m' a k = y_mI m a k) ∧ ∀ a k, ¬ S a k → y_mJ m' a k = y_mJ m a k
theorem q_F_refl {S : Nat → Nat → Prop} {m : y_m} : q_F S m m := ⟨rfl, rfl, rfl, rfl, fun _ _ _ => rfl, fun _ _ _ => rfl⟩
theorem q_F_trans {S : Nat → Nat → Prop} {m m1 m2 : y_m} (h : q_F S m m1) (g : q_F S m1 m2) : q_F S m m2 :=
  ⟨g.1.trans h.1, g.2.1.trans h.2.1, g.2.2.1.trans h.2.2.1, g.2.2.2.1.trans h.2.2.2.1, fun a k q => (g.2.2.2.2.1 a k q).trans (h.2.2.2.2.1 a k q), fun a k q => (g.2.2.2.2.2 a k q).trans (h.2.2.2.2.2 a k q)⟩
theorem q_F_mono {S T : Nat → Nat → Prop} {m m1 : y_m} (h : q_F S m m1) (g : ∀ a k, S a k → T a k) : q_F T m m1 :=
  ⟨h.1, h.2.1, h.2.2.1, h.2.2.2.1, fun a k q => h.2.2.2.2.1 a k (fun z => q (g a k z)), fun a k q => h.2.2.2.2.2 a k (fun z => q (g a k z))⟩
theorem q_F_sI {S : Nat → Nat → Prop} {m : y_m} {a k : Nat} {x : Int} (h : S a k) : q_F S m (y_sI m a k x) :=
  ⟨rfl, rfl, rfl, rfl, fun a' k' q => e_II' (fun z => q (by rw [z.1, z.2]; exact h)), fun _ _ _ => rfl⟩
theorem q_F_sJ {S : Nat → Nat → Prop} {m : y_m} {a k : Nat} {x : Int} (h : S a k) : q_F S m (y_sJ m a k x) :=
  ⟨rfl, rfl, rfl, rfl, fun _ _ _ => rfl, fun a' k' q => e_JJ' (fun z => q (by rw [z.1, z.2]; exact h))⟩
theorem q_F_I {S : Nat → Nat → Prop} {m m1 : y_m} (h : q_F S m m1) (a k : Nat) (g : ¬ S a k) : y_mI m1 a k = y_mI m a k := h.2.2.2.2.1 a k g
theorem q_F_J {S : Nat → Nat → Prop} {m m1 : y_m} (h : q_F S m m1) (a k : Nat) (g : ¬ S a k) : y_mJ m1 a k = y_mJ m a k := h.2.2.2.2.2 a k g
/-- the number that a row of digits spells, the least digit first -/
def q_L10 (f : Nat → Int) : Nat → Int
  | 0 => 0
  | k + 1 => q_L10 f k + f k * 10 ^ k
def q_dig (f : Nat → Int) (n : Nat) : Prop := ∀ i, i < n → 0 ≤ f i ∧ f i ≤ 9
theorem q_L10_congr {f g : Nat → Int} : ∀ {n : Nat}, (∀ i, i < n → f i = g i) → q_L10 f n = q_L10 g n
  | 0, _ => rfl
  | n + 1, h => by rw [q_L10, q_L10, q_L10_congr (fun i hi => h i (by omega)), h n (by omega)]
theorem n_pow_pos (k : Nat) : (0 : Int) < 10 ^ k := Int.pow_pos (by decide)
theorem n_pow_le {j k : Nat} (h : j ≤ k) : (10 : Int) ^ j ≤ 10 ^ k := by
  have := Nat.pow_le_pow_right (n := 10) (by decide) h
  have e : ∀ n : Nat, (10 : Int) ^ n = ((10 ^ n : Nat) : Int) := fun n => by rw [Int.natCast_pow]; rfl
  rw [e, e]; omega
theorem q_L10_lt {f : Nat → Int} : ∀ {n : Nat}, q_dig f n → 0 ≤ q_L10 f n ∧ q_L10 f n < 10 ^ n
  | 0, _ => ⟨Int.le_refl _, show (0 : Int) < 10 ^ 0 by decide⟩
  | n + 1, h => by
    have ih := q_L10_lt (n := n) (fun i hi => h i (by omega))
    have h1 := h n (by omega)
    have hp := n_pow_pos n
    have e1 : 0 ≤ f n * 10 ^ n := Int.mul_nonneg h1.1 (by omega)
    have e2 : f n * 10 ^ n ≤ 9 * 10 ^ n := Int.mul_le_mul_of_nonneg_right h1.2 (by omega)
    rw [q_L10, Int.pow_succ]
    omega
theorem q_L10_add {f : Nat → Int} : ∀ (j n : Nat), q_L10 f (n + j) = q_L10 f n + 10 ^ n * q_L10 (fun i => f (n + i)) j
  | 0, n => by rw [q_L10, Int.mul_zero, Int.add_zero, Nat.add_zero]
  | j + 1, n => by
    rw [← Nat.add_assoc, q_L10, q_L10_add j n, q_L10, Int.mul_add, Int.add_assoc, Int.pow_add, Int.mul_left_comm]
/-- behind its number's length a row holds zeros -/
theorem q_L10_zero {f : Nat → Int} {n k : Nat} (hd : q_dig f n) (h : q_L10 f n < 10 ^ k) : ∀ i, k ≤ i → i < n → f i = 0 := by
  intro i h1 h2
  have e := q_L10_add (f := f) (n - (i + 1)) (i + 1)
  rw [show i + 1 + (n - (i + 1)) = n by omega, q_L10] at e
  have a1 := q_L10_lt (f := f) (n := i) (fun j hj => hd j (by omega))
  have a2 := q_L10_lt (f := fun j => f (i + 1 + j)) (n := n - (i + 1)) (fun j hj => hd _ (by omega))
  have a3 : 0 ≤ 10 ^ (i + 1) * q_L10 (fun j => f (i + 1 + j)) (n - (i + 1)) := Int.mul_nonneg (Int.le_of_lt (n_pow_pos _)) a2.1
  have a4 := hd i h2
  have a5 : (10 : Int) ^ k ≤ 10 ^ i := n_pow_le h1
  rcases Int.lt_or_eq_of_le a4.1 with q | q
  · have a6 : 1 * 10 ^ i ≤ f i * 10 ^ i := Int.mul_le_mul_of_nonneg_right (by omega) (Int.le_of_lt (n_pow_pos _))
    omega
  · exact q.symm
theorem q_L10_tail {f : Nat → Int} {n k : Nat} (hk : k ≤ n) (h : ∀ i, k ≤ i → i < n → f i = 0) : q_L10 f n = q_L10 f k := by
  have e := q_L10_add (f := f) (n - k) k
  rw [show k + (n - k) = n by omega] at e
  have z : q_L10 (fun i => f (k + i)) (n - k) = 0 := by
    have : ∀ j, j ≤ n - k → q_L10 (fun i => f (k + i)) j = 0 := by
      intro j
      induction j with
      | zero => intro _; rfl
      | succ j ih => intro hj; rw [q_L10, ih (by omega), h _ (by omega) (by omega)]; simp
    exact this _ (Nat.le_refl _)
  rw [e, z, Int.mul_zero, Int.add_zero]
/-- a row that holds a number -/
def q_N (m : y_m) (a n : Nat) (N : Int) : Prop := q_dig (y_mI m a) n ∧ q_L10 (y_mI m a) n = N
section Big
variable {sp : Nat → Nat} {ph : Bool} {d : Nat}
/-- shifts -/
theorem l_204a {a n by' : Nat} (hb : 0 < by') (hn : n ≤ 1000) (hb' : by' ≤ 10) : ∀ (k : Nat) (i : Int) (m : y_m), i + 1 = by' + k → i < n → ∃ m', y_R sp ph d 204 2 [some (y_bo 100 n a), some (y_bi (by' : Int)), none, some (y_bi i)] [] m = y_R sp ph d 204 21 [some (y_bo 100 n a), some (y_bi (by' : Int)), none, none] [] m' ∧ q_F (fun x _ => x = a) m m' ∧ ∀ j, y_mI m' a j = if by' ≤ j ∧ (j : Int) ≤ i then y_mI m a (j - by') else y_mI m a j := by
  intro k
  induction k with
  | zero =>
    intro i m h hi
    refine ⟨m, ?_, q_F_refl, fun j => ?_⟩
    · rw [y_E_204_2]
      simp (disch := omega) only [z_w_id, if_pos, if_neg, e_g, e_bI, e_bV, e_bL, e_II, e_II', e_IJ, e_JI, e_JJ, e_JJ', reduceIte, not_true_eq_false, not_false_eq_true, true_or, or_true, true_and, and_true, e_nb0, e_gT]
    · rw [if_neg (by omega)]
  | succ k ih =>
    intro i m h hi
    obtain ⟨m', h1, h2, h3⟩ := ih (i - 1) (y_sI m a i.toNat (y_mI m a (i - by').toNat)) (by omega) (by omega)
    refine ⟨m', ?_, q_F_trans (q_F_sI rfl) h2, fun j => ?_⟩
    · rw [y_E_204_2]
      simp (disch := omega) only [z_w_id, if_pos, if_neg, e_g, e_bI, e_bV, e_bL, e_II, e_II', e_IJ, e_JI, e_JJ, e_JJ', reduceIte, not_true_eq_false, not_false_eq_true, true_or, or_true, true_and, and_true, e_nb0, e_gT]
      exact h1
    · rw [h3 j]
      by_cases c1 : by' ≤ j ∧ (j : Int) ≤ i
      · rw [if_pos c1]
        by_cases c2 : (j : Int) ≤ i - 1
        · rw [if_pos ⟨c1.1, c2⟩, e_II' (by omega)]
        · rw [if_neg (by omega)]
          have : j = i.toNat := by omega
          subst this
          rw [e_II, show (i - (by' : Int)).toNat = i.toNat - by' by omega]
      · rw [if_neg c1, if_neg (by omega), e_II' (by omega)]
theorem l_204b {a n by' : Nat} (hn : n ≤ 1000) (hb' : by' ≤ 10) (hb : by' ≤ n) : ∀ (k i : Nat) (m : y_m), i + k = by' → ∃ m', y_R sp ph d 204 23 [some (y_bo 100 n a), some (y_bi (by' : Int)), none, some (y_bi (i : Int))] [] m = y_rV m' ∧ q_F (fun x _ => x = a) m m' ∧ ∀ j, y_mI m' a j = if i ≤ j ∧ j < by' then 0 else y_mI m a j := by
  intro k
  induction k with
  | zero =>
    intro i m h
    refine ⟨m, ?_, q_F_refl, fun j => ?_⟩
    · rw [y_E_204_23]
      simp (disch := omega) only [z_w_id, if_pos, if_neg, e_g, e_bI, e_bV, e_bL, e_II, e_II', e_IJ, e_JI, e_JJ, e_JJ', reduceIte, not_true_eq_false, not_false_eq_true, true_or, or_true, true_and, and_true, e_nb0, e_gT, y_E_204_38]
    · rw [if_neg (by omega)]
  | succ k ih =>
    intro i m h
    obtain ⟨m', h1, h2, h3⟩ := ih (i + 1) (y_sI m a i 0) (by omega)
    refine ⟨m', ?_, q_F_trans (q_F_sI rfl) h2, fun j => ?_⟩
    · rw [y_E_204_23]
      simp (disch := omega) only [z_w_id, if_pos, if_neg, e_g, e_bI, e_bV, e_bL, e_II, e_II', e_IJ, e_JI, e_JJ, e_JJ', reduceIte, not_true_eq_false, not_false_eq_true, true_or, or_true, true_and, and_true, e_nb0, e_gT]
      exact h1
    · rw [h3 j]
      by_cases c : j = i
      · subst c
        rw [if_neg (by omega), e_II, if_pos (by omega)]
      · by_cases c2 : i ≤ j ∧ j < by'
        · rw [if_pos c2, if_pos (by omega)]
        · rw [if_neg c2, if_neg (by omega), e_II' (by omega)]
theorem s_204 {a n by' u : Nat} {m : y_m} (hb : 0 < by') (hn : n ≤ 1000) (hb' : by' ≤ 10) (hu : u < n) (hbu : by' ≤ u + 1) (hbn : by' ≤ n) : ∃ m', y_V sp ph (d + 1) 204 [y_bo 100 n a, y_bi (by' : Int), y_bi (u : Int)] m = y_rV m' ∧ q_F (fun x _ => x = a) m m' ∧ ∀ j, y_mI m' a j = if j < by' then 0 else if j ≤ u then y_mI m a (j - by') else y_mI m a j := by
  obtain ⟨m1, h1, h2, h3⟩ := l_204a (sp := sp) (ph := ph) (d := d) (a := a) hb hn hb' (u + 1 - by') (u : Int) m (by omega) (by omega)
  obtain ⟨m2, h4, h5, h6⟩ := l_204b (sp := sp) (ph := ph) (d := d) (a := a) hn hb' hbn by' 0 m1 (by omega)
  refine ⟨m2, ?_, q_F_trans h2 h5, fun j => ?_⟩
  · simp only [y_C_204, y_E_204_0]
    rw [h1]
    simp only [y_E_204_21]
    exact h4
  · rw [h6 j]
    by_cases c : j < by'
    · rw [if_pos ⟨Nat.zero_le _, c⟩, if_pos c]
    · rw [if_neg (by omega), if_neg c, h3 j]
      by_cases c2 : j ≤ u
      · rw [if_pos (by omega), if_pos c2]
      · rw [if_neg (by omega), if_neg c2]
theorem s_204N {a by' u : Nat} {m : y_m} {N : Int} (hb : 0 < by') (hb' : by' ≤ 10) (hu : u < 476) (hbu : by' ≤ u) (hN : q_N m a 476 N) (hs : N < 10 ^ (u + 1 - by')) : ∃ m', y_V sp ph (d + 1) 204 [y_bo 100 476 a, y_bi (by' : Int), y_bi (u : Int)] m = y_rV m' ∧ q_F (fun x _ => x = a) m m' ∧ q_N m' a 476 (10 ^ by' * N) := by
  obtain ⟨m', h1, h2, h3⟩ := s_204 (sp := sp) (ph := ph) (d := d) (a := a) (n := 476) (by' := by') (u := u) (m := m) hb (by omega) hb' hu (by omega) (by omega)
  obtain ⟨hd, hv⟩ := hN
  have hz := q_L10_zero hd (by rw [hv]; exact hs)
  refine ⟨m', h1, h2, fun i hi => ?_, ?_⟩
  · rw [h3 i]
    split
    · exact ⟨Int.le_refl _, by decide⟩
    · split
      · exact hd _ (by omega)
      · exact hd _ hi
  · have hz' : ∀ i, u + 1 ≤ i → i < 476 → y_mI m' a i = 0 := by
      intro i h4 h5
      rw [h3 i, if_neg (by omega), if_neg (by omega), hz i (by omega) h5]
    rw [q_L10_tail (show u + 1 ≤ 476 by omega) hz']
    have e := q_L10_add (f := y_mI m' a) (u + 1 - by') by'
    rw [show by' + (u + 1 - by') = u + 1 by omega] at e
    rw [e]
    have e1 : q_L10 (y_mI m' a) by' = 0 := by
      rw [q_L10_tail (k := 0) (Nat.zero_le _) (fun i _ hi => by rw [h3 i, if_pos hi])]; rfl
    have e2 : q_L10 (fun i => y_mI m' a (by' + i)) (u + 1 - by') = q_L10 (y_mI m a) (u + 1 - by') := by
      refine q_L10_congr fun i hi => ?_
      rw [h3, if_neg (by omega), if_pos (by omega), show by' + i - by' = i by omega]
    rw [e1, e2, ← hv, q_L10_tail (show u + 1 - by' ≤ 476 by omega) hz, Int.zero_add]
/-- isLess -/
theorem l_205 {a b n : Nat} {m : y_m} (hn : n ≤ 1000) (ha : q_dig (y_mI m a) n) (hb : q_dig (y_mI m b) n) : ∀ (k : Nat) (i : Int), i + 1 = k → i < n → y_R sp ph d 205 2 [some (y_bo 100 n a), some (y_bo 100 n b), none, some (y_bi i)] [] m = y_rI (n_b (decide (q_L10 (y_mI m a) k < q_L10 (y_mI m b) k))) m := by
  intro k
  induction k with
  | zero =>
    intro i h hi
    rw [y_E_205_2]
    simp (disch := omega) only [z_w_id, if_pos, if_neg, e_g, e_bI, e_bV, e_bL, e_II, e_II', e_IJ, e_JI, e_JJ, e_JJ', reduceIte, not_true_eq_false, not_false_eq_true, true_or, or_true, true_and, and_true, e_nb0, e_gT, y_E_205_36]
    rfl
  | succ k ih =>
    intro i h hi
    have hk : i = (k : Int) := by omega
    subst hk
    have a1 := ha k (by omega)
    have b1 := hb k (by omega)
    have a2 := q_L10_lt (f := y_mI m a) (n := k) (fun j hj => ha j (by omega))
    have b2 := q_L10_lt (f := y_mI m b) (n := k) (fun j hj => hb j (by omega))
    have hp := n_pow_pos k
    have mm : ∀ x y : Int, x < y → x * 10 ^ k + 10 ^ k ≤ y * 10 ^ k := by
      intro x y hxy
      have := Int.mul_le_mul_of_nonneg_right (show x + 1 ≤ y by omega) (Int.le_of_lt hp)
      rw [Int.add_mul, Int.one_mul] at this
      exact this
    rw [y_E_205_2]
    simp (disch := omega) only [z_w_id, if_pos, if_neg, e_g, e_bI, e_bV, e_bL, e_II, e_II', e_IJ, e_JI, e_JJ, e_JJ', reduceIte, not_true_eq_false, not_false_eq_true, true_or, or_true, true_and, and_true, e_nb0, e_gT, Int.toNat_natCast]
    rw [q_L10, q_L10]
    by_cases c : y_mI m a k = y_mI m b k
    · rw [if_pos c, y_E_205_30, ih _ (by omega) (by omega), c]
      congr 3
      exact propext ⟨fun q => by omega, fun q => by omega⟩
    · rw [if_neg c]
      by_cases c2 : y_mI m b k ≤ y_mI m a k
      · have := mm _ _ (show y_mI m b k < y_mI m a k by omega)
        simp (disch := omega) only [if_pos c2, y_E_205_28, y_E_205_29, z_w_id, if_pos, if_neg, e_g, e_bI, e_bV, e_bL, e_II, e_II', e_IJ, e_JI, e_JJ, e_JJ', reduceIte, not_true_eq_false, not_false_eq_true, true_or, or_true, true_and, and_true, e_nb0, e_gT]
        rw [decide_eq_false (by omega)]; rfl
      · have := mm _ _ (show y_mI m a k < y_mI m b k by omega)
        simp (disch := omega) only [if_neg c2, y_E_205_29, z_w_id, if_pos, if_neg, e_g, e_bI, e_bV, e_bL, e_II, e_II', e_IJ, e_JI, e_JJ, e_JJ', reduceIte, not_true_eq_false, not_false_eq_true, true_or, or_true, true_and, and_true, e_nb0, e_gT]
        rw [decide_eq_true (by omega)]; rfl
theorem s_205 {a b u : Nat} {m : y_m} {N M : Int} (hu : u < 476) (hN : q_N m a 476 N) (hM : q_N m b 476 M) (h1 : N < 10 ^ (u + 1)) (h2 : M < 10 ^ (u + 1)) : y_V sp ph (d + 1) 205 [y_bo 100 476 a, y_bo 100 476 b, y_bi (u : Int)] m = y_rI (n_b (decide (N < M))) m := by
  obtain ⟨ha, hv⟩ := hN
  obtain ⟨hb, hw⟩ := hM
  simp only [y_C_205, y_E_205_0]
  rw [l_205 (by omega) ha hb (u + 1) (u : Int) (by omega) (by omega), ← q_L10_tail (show u + 1 ≤ 476 by omega) (q_L10_zero ha (by rw [hv]; exact h1)), ← q_L10_tail (show u + 1 ≤ 476 by omega) (q_L10_zero hb (by rw [hw]; exact h2)), hv, hw]
end Big
