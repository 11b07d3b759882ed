/-! ===== the reference: taking off, adding; digits of a root ===== -/
section More
variable {sp : Nat → Nat} {ph : Bool} {d : Nat}
theorem l_206 {a b u : Nat} (hab : a ≠ b) (hu : u < 476) {f g : Nat → Int} (hf : q_dig f 476) (hg : q_dig g 476) : ∀ (k i : Nat) (c : Int) (m : y_m), i + k = u + 1 → (c = 0 ∨ c = 1) → (∀ j, j < 476 → y_mI m b j = g j) → (∀ j, i ≤ j → j < 476 → y_mI m a j = f j) → (∀ j, j < i → 0 ≤ y_mI m a j ∧ y_mI m a j ≤ 9) → q_L10 (y_mI m a) i = q_L10 f i - q_L10 g i + c * 10 ^ i →
    ∃ m' c', y_R sp ph d 206 5 [some (y_bo 100 476 a), some (y_bo 100 476 b), some (y_bi (u : Int)), some (y_bi c), some (y_bi (i : Int)), none] [] m = y_rV m' ∧ q_F (fun x _ => x = a) m m' ∧ (c' = 0 ∨ c' = 1) ∧ (∀ j, u < j → j < 476 → y_mI m' a j = f j) ∧ (∀ j, j ≤ u → 0 ≤ y_mI m' a j ∧ y_mI m' a j ≤ 9) ∧ q_L10 (y_mI m' a) (u + 1) = q_L10 f (u + 1) - q_L10 g (u + 1) + c' * 10 ^ (u + 1) := by
  intro k
  induction k with
  | zero =>
    intro i c m h hc hgm hfm hdm hv
    have : i = u + 1 := by omega
    subst this
    refine ⟨m, c, ?_, q_F_refl, hc, fun j h1 h2 => hfm j (by omega) h2, fun j h1 => hdm j (by omega), hv⟩
    rw [y_E_206_5]
    simp (disch := omega) only [z_w_id, if_pos, if_neg, e_g, e_bI, e_bV, e_bL, e_II, e_II', e_IJ, e_JI, e_JJ, e_JJ', reduceIte, not_true_eq_false, not_false_eq_true, true_or, or_true, true_and, and_true, e_nb0, e_gT, y_E_206_60]
  | succ k ih =>
    intro i c m h hc hgm hfm hdm hv
    have f1 := hf i (by omega)
    have g1 := hg i (by omega)
    have e1 := hfm i (Nat.le_refl _) (by omega)
    have e2 := hgm i (by omega)
    have key : ∀ (x c2 : Int), 0 ≤ x → x ≤ 9 → (c2 = 0 ∨ c2 = 1) → x = f i - g i - c + c2 * 10 →
        ∃ m' c', y_R sp ph d 206 5 [some (y_bo 100 476 a), some (y_bo 100 476 b), some (y_bi (u : Int)), some (y_bi c2), some (y_bi ((i : Int) + 1)), none] [] (y_sI m a i x) = y_rV m' ∧ q_F (fun x _ => x = a) m m' ∧ (c' = 0 ∨ c' = 1) ∧ (∀ j, u < j → j < 476 → y_mI m' a j = f j) ∧ (∀ j, j ≤ u → 0 ≤ y_mI m' a j ∧ y_mI m' a j ≤ 9) ∧ q_L10 (y_mI m' a) (u + 1) = q_L10 f (u + 1) - q_L10 g (u + 1) + c' * 10 ^ (u + 1) := by
      intro x c2 hx0 hx9 hc2 hx
      obtain ⟨m', c', r1, r2, r3⟩ := ih (i + 1) c2 (y_sI m a i x) (by omega) hc2 (fun j hj => by rw [e_II' (fun q => hab q.1.symm)]; exact hgm j hj) (fun j h1 h2 => by rw [e_II' (by omega)]; exact hfm j (by omega) h2) (fun j hj => by
        by_cases hji : j = i
        · subst hji; rw [e_II]; exact ⟨hx0, hx9⟩
        · rw [e_II' (by omega)]; exact hdm j (by omega)) (by
        rw [q_L10, e_II, q_L10_congr (g := y_mI m a) (fun j hj => e_II' (by omega)), hv, q_L10, q_L10, hx, Int.pow_succ]
        rw [show c2 * (10 ^ i * 10) = c2 * 10 * 10 ^ i by rw [Int.mul_comm (10 ^ i) 10, Int.mul_assoc]]
        rw [Int.add_mul, Int.sub_mul, Int.sub_mul]
        omega)
      exact ⟨m', c', r1, q_F_trans (q_F_sI rfl) r2, r3⟩
    rw [y_E_206_5]
    simp (disch := omega) only [z_w_id, if_pos, if_neg, e_g, e_bI, e_bV, e_bL, e_II, e_II', e_IJ, e_JI, e_JJ, e_JJ', reduceIte, not_true_eq_false, not_false_eq_true, true_or, or_true, true_and, and_true, e_nb0, e_gT, Int.toNat_natCast, e1, e2]
    by_cases hneg : 0 ≤ f i - g i - c
    · simp (disch := omega) only [y_E_206_33, y_E_206_34, y_E_206_51, y_E_206_53, z_w_id, if_pos, if_neg, e_g, e_bI, e_bV, e_bL, e_II, e_II', e_IJ, e_JI, e_JJ, e_JJ', reduceIte, not_true_eq_false, not_false_eq_true, true_or, or_true, true_and, and_true, e_nb0, e_gT, Int.toNat_natCast]
      exact key _ 0 (by omega) (by omega) (Or.inl rfl) (by omega)
    · simp (disch := omega) only [y_E_206_33, y_E_206_34, y_E_206_51, y_E_206_53, z_w_id, if_pos, if_neg, e_g, e_bI, e_bV, e_bL, e_II, e_II', e_IJ, e_JI, e_JJ, e_JJ', reduceIte, not_true_eq_false, not_false_eq_true, true_or, or_true, true_and, and_true, e_nb0, e_gT, Int.toNat_natCast]
      exact key _ 1 (by omega) (by omega) (Or.inr rfl) (by omega)
theorem s_206 {a b u : Nat} {m : y_m} {N M : Int} (hab : a ≠ b) (hu : u < 476) (hN : q_N m a 476 N) (hM : q_N m b 476 M) (h1 : N < 10 ^ (u + 1)) (h2 : M ≤ N) : ∃ m', y_V sp ph (d + 1) 206 [y_bo 100 476 a, y_bo 100 476 b, y_bi (u : Int)] m = y_rV m' ∧ q_F (fun x _ => x = a) m m' ∧ q_N m' a 476 (N - M) := by
  obtain ⟨ha, hv⟩ := hN
  obtain ⟨hb, hw⟩ := hM
  obtain ⟨m', c', r1, r2, r3, r4, r5, r6⟩ := l_206 (sp := sp) (ph := ph) (d := d) hab hu ha hb (u + 1) 0 0 m (by omega) (Or.inl rfl) (fun _ _ => rfl) (fun _ _ _ => rfl) (fun j hj => absurd hj (Nat.not_lt_zero _)) (by simp [q_L10])
  have za := q_L10_zero ha (by rw [hv]; exact h1)
  have zb := q_L10_zero hb (k := u + 1) (by rw [hw]; omega)
  have ta := q_L10_tail (show u + 1 ≤ 476 by omega) za
  have tb := q_L10_tail (show u + 1 ≤ 476 by omega) zb
  have zz : ∀ j, u + 1 ≤ j → j < 476 → y_mI m' a j = 0 := fun j h3 h4 => by rw [r4 j (by omega) h4, za j h3 h4]
  have dg : q_dig (y_mI m' a) 476 := fun j hj => by
    by_cases c : j ≤ u
    · exact r5 j c
    · rw [zz j (by omega) hj]; omega
  have hl := q_L10_lt (f := y_mI m' a) (n := u + 1) (fun j hj => dg j (by omega))
  refine ⟨m', ?_, r2, dg, ?_⟩
  · simp only [y_C_206, y_E_206_0]
    exact r1
  · rw [q_L10_tail (show u + 1 ≤ 476 by omega) zz]
    rcases r3 with rfl | rfl
    · omega
    · omega
theorem l_207 {a u : Nat} (hu : u < 476) {f : Nat → Int} {n : Int} (hf : q_dig f 476) : ∀ (k i : Nat) (c : Int) (m : y_m), i + k = u + 1 → -1 ≤ c → c ≤ 2 → (∀ j, i ≤ j → j < 476 → y_mI m a j = f j) → (∀ j, j < i → 0 ≤ y_mI m a j ∧ y_mI m a j ≤ 9) → q_L10 (y_mI m a) i + c * 10 ^ i = q_L10 f i + n →
    ∃ m' c', y_R sp ph d 207 5 [some (y_bo 100 476 a), none, some (y_bi (u : Int)), some (y_bi c), some (y_bi (i : Int)), none] [] m = y_rV m' ∧ q_F (fun x _ => x = a) m m' ∧ (∀ j, u < j → j < 476 → y_mI m' a j = f j) ∧ (∀ j, j ≤ u → 0 ≤ y_mI m' a j ∧ y_mI m' a j ≤ 9) ∧ -1 ≤ c' ∧ q_L10 (y_mI m' a) (u + 1) + c' * 10 ^ (u + 1) = q_L10 f (u + 1) + n := by
  intro k
  induction k with
  | zero =>
    intro i c m h hc hc' hfm hdm hv
    have : i = u + 1 := by omega
    subst this
    refine ⟨m, c, ?_, q_F_refl, fun j h1 h2 => hfm j (by omega) h2, fun j h1 => hdm j (by omega), hc, hv⟩
    rw [y_E_207_5]
    simp (disch := omega) only [z_w_id, if_pos, if_neg, e_g, e_bI, e_bV, e_bL, e_II, e_II', e_IJ, e_JI, e_JJ, e_JJ', reduceIte, not_true_eq_false, not_false_eq_true, true_or, or_true, true_and, and_true, e_nb0, e_gT, y_E_207_66]
  | succ k ih =>
    intro i c m h hc hc' hfm hdm hv
    have f1 := hf i (by omega)
    have e1 := hfm i (Nat.le_refl _) (by omega)
    by_cases hc0 : c = 0
    · subst hc0
      refine ⟨m, 0, ?_, q_F_refl, fun j h1 h2 => hfm j (by omega) h2, fun j h1 => ?_, by decide, ?_⟩
      · rw [y_E_207_5]
        simp (disch := omega) only [z_w_id, if_pos, if_neg, e_g, e_bI, e_bV, e_bL, e_II, e_II', e_IJ, e_JI, e_JJ, e_JJ', reduceIte, not_true_eq_false, not_false_eq_true, true_or, or_true, true_and, and_true, e_nb0, e_gT, y_E_207_66]
      · by_cases hji : j < i
        · exact hdm j hji
        · rw [hfm j (by omega) (by omega)]; exact hf j (by omega)
      · have ea := q_L10_add (f := y_mI m a) (u + 1 - i) i
        have eb := q_L10_add (f := f) (u + 1 - i) i
        rw [show i + (u + 1 - i) = u + 1 by omega] at ea eb
        rw [ea, eb, q_L10_congr (f := fun j => y_mI m a (i + j)) (g := fun j => f (i + j)) (fun j hj => hfm _ (by omega) (by omega))]
        omega
    have key : ∀ (x c2 : Int), 0 ≤ x → x ≤ 9 → -1 ≤ c2 → c2 ≤ 2 → x + c2 * 10 = f i + c →
        ∃ m' c', y_R sp ph d 207 5 [some (y_bo 100 476 a), none, some (y_bi (u : Int)), some (y_bi c2), some (y_bi ((i : Int) + 1)), none] [] (y_sI m a i x) = y_rV m' ∧ q_F (fun x _ => x = a) m m' ∧ (∀ j, u < j → j < 476 → y_mI m' a j = f j) ∧ (∀ j, j ≤ u → 0 ≤ y_mI m' a j ∧ y_mI m' a j ≤ 9) ∧ -1 ≤ c' ∧ q_L10 (y_mI m' a) (u + 1) + c' * 10 ^ (u + 1) = q_L10 f (u + 1) + n := by
      intro x c2 hx0 hx9 hc2 hc3 hx
      obtain ⟨m', c', r1, r2, r3⟩ := ih (i + 1) c2 (y_sI m a i x) (by omega) hc2 hc3 (fun j h1 h2 => by rw [e_II' (by omega)]; exact hfm j (by omega) h2) (fun j hj => by
        by_cases hji : j = i
        · subst hji; rw [e_II]; exact ⟨hx0, hx9⟩
        · rw [e_II' (by omega)]; exact hdm j (by omega)) (by
        have hx' : x = f i + c - c2 * 10 := by omega
        rw [q_L10, e_II, q_L10_congr (g := y_mI m a) (fun j hj => e_II' (by omega)), q_L10, hx', Int.pow_succ]
        rw [show c2 * (10 ^ i * 10) = c2 * 10 * 10 ^ i by rw [Int.mul_comm (10 ^ i) 10, Int.mul_assoc]]
        rw [Int.sub_mul, Int.add_mul]
        omega)
      exact ⟨m', c', r1, q_F_trans (q_F_sI rfl) r2, r3⟩
    rw [y_E_207_5]
    simp (disch := omega) only [z_w_id, if_pos, if_neg, e_g, e_bI, e_bV, e_bL, e_II, e_II', e_IJ, e_JI, e_JJ, e_JJ', reduceIte, not_true_eq_false, not_false_eq_true, true_or, or_true, true_and, and_true, e_nb0, e_gT, Int.toNat_natCast, e1]
    by_cases hneg : 0 ≤ f i + c
    · simp (disch := omega) only [y_E_207_32, y_E_207_37, y_E_207_54, y_E_207_59, z_w_id, if_pos, if_neg, e_g, e_bI, e_bV, e_bL, e_II, e_II', e_IJ, e_JI, e_JJ, e_JJ', reduceIte, not_true_eq_false, not_false_eq_true, true_or, or_true, true_and, and_true, e_nb0, e_gT, Int.toNat_natCast, n_idiv, n_irem]
      exact key _ _ (by omega) (by omega) (by omega) (by omega) (by omega)
    · simp (disch := omega) only [y_E_207_32, y_E_207_37, y_E_207_54, y_E_207_59, z_w_id, if_pos, if_neg, e_g, e_bI, e_bV, e_bL, e_II, e_II', e_IJ, e_JI, e_JJ, e_JJ', reduceIte, not_true_eq_false, not_false_eq_true, true_or, or_true, true_and, and_true, e_nb0, e_gT, Int.toNat_natCast]
      exact key _ (-1) (by omega) (by omega) (by omega) (by omega) (by omega)
theorem s_207 {a u : Nat} {m : y_m} {N n : Int} (hu : u < 476) (hN : q_N m a 476 N) (hn : -1 ≤ n) (hn' : n ≤ 2) (h1 : N + n < 10 ^ (u + 1)) (h2 : 0 ≤ N + n) (h3 : N < 10 ^ (u + 1)) : ∃ m', y_V sp ph (d + 1) 207 [y_bo 100 476 a, y_bi n, y_bi (u : Int)] m = y_rV m' ∧ q_F (fun x _ => x = a) m m' ∧ q_N m' a 476 (N + n) := by
  obtain ⟨ha, hv⟩ := hN
  obtain ⟨m', c', r1, r2, r4, r5, r3, r6⟩ := l_207 (sp := sp) (ph := ph) (d := d) (a := a) (n := n) hu ha (u + 1) 0 n m (by omega) hn hn' (fun _ _ _ => rfl) (fun j hj => absurd hj (Nat.not_lt_zero _)) (by simp [q_L10])
  have za := q_L10_zero ha (by rw [hv]; exact h3)
  have ta := q_L10_tail (show u + 1 ≤ 476 by omega) za
  have zz : ∀ j, u + 1 ≤ j → j < 476 → y_mI m' a j = 0 := fun j h3 h4 => by rw [r4 j (by omega) h4, za j h3 h4]
  have dg : q_dig (y_mI m' a) 476 := fun j hj => by
    by_cases c : j ≤ u
    · exact r5 j c
    · rw [zz j (by omega) hj]; omega
  have hl := q_L10_lt (f := y_mI m' a) (n := u + 1) (fun j hj => dg j (by omega))
  have hp := n_pow_pos (u + 1)
  refine ⟨m', ?_, r2, dg, ?_⟩
  · simp only [y_C_207, y_E_207_0]
    exact r1
  · rw [q_L10_tail (show u + 1 ≤ 476 by omega) zz]
    have hc0 : c' = 0 := by
      rcases Int.lt_trichotomy c' 0 with q | q | q
      · have := Int.mul_le_mul_of_nonneg_right (show c' ≤ -1 by omega) (Int.le_of_lt hp)
        omega
      · exact q
      · have := Int.mul_le_mul_of_nonneg_right (show 1 ≤ c' by omega) (Int.le_of_lt hp)
        omega
    subst hc0
    omega
end More
