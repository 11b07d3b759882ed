/-! ===== the reference: cut; short enough; twice ===== -/
def q_iw (Fr : Nat → Nat) (D : Nat → Int) : Nat → Nat → Bool → Bool
  | 0, _, b => b
  | n + 1, k, b => q_iw Fr D n (k + 1) (b && (decide (D k = 0) || decide (Fr k = 1)))
def q_ru (A : Nat) (P : Nat → Nat) (D : Nat → Int) : Nat → Nat → Int → Int → Int × Int
  | 0, _, up, low => (up, low)
  | n + 1, j, up, low => if D j = 0 then q_ru A P D n (j + 1) up low else q_ru A P D n (j + 1) (up * P j + D j * A * low) (low * P j)
noncomputable def q_cu (pull : Bool) (A B : Nat) (D : Nat → Int) : Int := if (q_iw (q_Fr A B) D 5 1 true && pull) = true then (q_ru A (q_P A B) D 5 1 (D 0) 1).1 / (q_ru A (q_P A B) D 5 1 (D 0) 1).2 * 1000000 + (q_ru A (q_P A B) D 5 1 (D 0) 1).1 % (q_ru A (q_P A B) D 5 1 (D 0) 1).2 * 1000000 / (q_ru A (q_P A B) D 5 1 (D 0) 1).2 else q_NN pull A B D / 10 ^ (if pull then 214 else 217)
section Cut2
variable {sp : Nat → Nat} {ph : Bool} {d : Nat} {m : y_m} {A B : Nat}
theorem l_220 {x : Nat} {pull : Bool} (hx : x < 167772160000) : ∀ (n k : Nat) (m : y_m), k + n = 6 → 1 ≤ k → ∃ m', y_R sp ph (d + 1) 220 25 [some (y_bo 11 0 49), some (y_bl (x : Int)), none, none, some (y_bi (k : Int))] [] m = y_rV m' ∧ q_F (fun a j => a = 92 ∧ k ≤ j) m m' ∧ ∀ j, k ≤ j → j < 6 → y_mI m' 92 j = q_dec pull x j := by
  intro n
  induction n with
  | zero =>
    intro k m hk h1
    refine ⟨m, ?_, q_F_refl, fun j a b => absurd b (by omega)⟩
    rw [y_E_220_25]
    simp (disch := omega) only [z_w_id, if_pos, if_neg, e_g, e_bI, e_bV, e_bL, e_II, e_II', e_IJ, e_JI, e_JJ, e_JJ', reduceIte, not_true_eq_false, not_false_eq_true, true_or, or_true, true_and, and_true, e_nb0, e_gT, y_E_220_50]
  | succ n ih =>
    intro k m hk h1
    obtain ⟨m', r1, r2, r3⟩ := ih (k + 1) (y_sI m 92 k ((x / 16 ^ k % 16 : Nat) : Int)) (by omega) (by omega)
    refine ⟨m', ?_, q_F_trans (q_F_sI ⟨rfl, Nat.le_refl _⟩) (q_F_mono r2 (fun a j q => ⟨q.1, by omega⟩)), fun j a b => ?_⟩
    · rw [y_E_220_25]
      simp (disch := omega) only [z_w_id, if_pos, if_neg, e_g, e_bI, e_bV, e_bL, e_II, e_II', e_IJ, e_JI, e_JJ, e_JJ', reduceIte, not_true_eq_false, not_false_eq_true, true_or, or_true, true_and, and_true, e_nb0, e_gT, Int.toNat_natCast, t_214]
      exact r1
    · by_cases q : j = k
      · subst q
        rw [q_F_I r2 92 j (by omega), e_II]
        unfold q_dec
        rw [if_neg (by omega)]
      · exact r3 j (by omega) b
theorem t_220 {x : Nat} {pull : Bool} (hx : x < 167772160000) : ∃ m', y_V sp ph (d + 2) 220 [y_bo 11 0 49, y_bl (x : Int), y_bi (n_b pull)] m = y_rV m' ∧ q_F (fun a _ => a = 92) m m' ∧ ∀ j, j < 6 → y_mI m' 92 j = q_dec pull x j := by
  obtain ⟨m1, a1, a2, a3⟩ := l_220 (sp := sp) (ph := ph) (d := d) (pull := pull) hx 5 1 (y_sI m 92 0 (q_dec pull x 0)) (by omega) (by omega)
  have a1' : y_R sp ph (d + 1) 220 25 [some (y_bo 11 0 49), some (y_bl (x : Int)), none, none, some (y_bi 1)] [] (y_sI m 92 0 (q_dec pull x 0)) = _ := a1
  have t0 : y_V sp ph (d + 1) 214 [y_bl (x : Int), y_bi 0] m = y_rI ((x / 16 ^ 0 % 16 : Nat) : Int) m := t_214 (k := 0) (by omega) (by decide)
  refine ⟨m1, ?_, q_F_trans (q_F_sI rfl) (q_F_mono a2 (fun a j q => q.1)), fun j hj => ?_⟩
  · simp only [y_C_220, y_E_220_0, e_nb0]
    cases pull with
    | true =>
      simp (disch := omega) only [z_w_id, if_pos, if_neg, e_g, e_bI, e_bV, e_bL, e_II, e_II', e_IJ, e_JI, e_JJ, e_JJ', reduceIte, not_true_eq_false, not_false_eq_true, true_or, or_true, true_and, and_true, e_nb0, e_gT, Int.toNat_natCast, t0, y_E_220_21, Bool.true_eq_false]
      exact a1'
    | false =>
      simp (disch := omega) only [z_w_id, if_pos, if_neg, e_g, e_bI, e_bV, e_bL, e_II, e_II', e_IJ, e_JI, e_JJ, e_JJ', reduceIte, not_true_eq_false, not_false_eq_true, true_or, or_true, true_and, and_true, e_nb0, e_gT, Int.toNat_natCast, t_213, y_E_220_17, y_E_220_21]
      exact a1'
  · by_cases q : j = 0
    · subst q; rw [q_F_I a2 92 0 (by omega), e_II]
    · exact a3 j (by omega) hj
theorem l_222a {D : Nat → Int} {pull : Bool} (h : q_RR m A B) (hs : q_sum m D) {x2 : Int} : ∀ (n k : Nat) (b : Bool), k + n = 6 → 1 ≤ k → y_R sp ph d 222 16 [some (y_bo 11 0 49), some (y_bi (n_b pull)), some (y_bi x2), some (y_bi (n_b b)), some (y_bi (k : Int)), none, none, none, none] [] m = y_R sp ph d 222 59 [some (y_bo 11 0 49), some (y_bi (n_b pull)), some (y_bi x2), some (y_bi (n_b (q_iw (q_Fr A B) D n k b))), none, none, none, none, none] [] m := by
  intro n
  induction n with
  | zero =>
    intro k b hk h1
    rw [y_E_222_16]
    simp (disch := omega) only [z_w_id, if_pos, if_neg, e_g, e_bI, e_bV, e_bL, e_II, e_II', e_IJ, e_JI, e_JJ, e_JJ', reduceIte, not_true_eq_false, not_false_eq_true, true_or, or_true, true_and, and_true, e_nb0, e_gT]
    rfl
  | succ n ih =>
    intro k b hk h1
    obtain ⟨z1, z2, z3⟩ := hs.2.2.2 k h1 (by omega)
    have y2 : y_mI m 75 k = q_Fr A B k := (q_RR_Y h h1 (by omega) true).2.2.2.2.2.2.2
    have p := q_P_b (B := B) (k := k) h.1 h.2.1 h.2.2.1 (by omega)
    rw [y_E_222_16]
    simp (disch := omega) only [z_w_id, if_pos, if_neg, e_g, e_bI, e_bV, e_bL, e_II, e_II', e_IJ, e_JI, e_JJ, e_JJ', reduceIte, not_true_eq_false, not_false_eq_true, true_or, or_true, true_and, and_true, e_nb0, e_gT, Int.toNat_natCast, z1, y2, y_E_222_51, y_E_222_47, y_E_222_52]
    rw [show (k : Int) + 1 = ((k + 1 : Nat) : Int) by omega, show (0 : Int) = n_b false from rfl, show (1 : Int) = n_b true from rfl, ih (k + 1) _ (by omega) (by omega), ih (k + 1) _ (by omega) (by omega), q_iw, show n_b false = 0 from rfl, show n_b true = 1 from rfl]
    cases b
    · simp
    · by_cases q : D k = 0
      · simp [q]
      · by_cases q2 : q_Fr A B k = 1
        · simp [q, q2]
        · simp [q, q2]; intro q3; exact absurd q3 (by omega)
theorem l_222b {D : Nat → Int} (h : q_RR m A B) (hs : q_sum m D) (hp : ∀ k, k < 6 → 0 ≤ D k) : ∀ (n j : Nat) (up low t : Int), j + n = 6 → 1 ≤ j → 1 ≤ t → 1 ≤ low → low ≤ t → 0 ≤ up → up ≤ 30000 * t → t * 600 ^ n ≤ 77760000000000 → 0 ≤ (q_ru A (q_P A B) D n j up low).1 ∧ (q_ru A (q_P A B) D n j up low).1 ≤ 2332800000000000000 ∧ 1 ≤ (q_ru A (q_P A B) D n j up low).2 ∧ (q_ru A (q_P A B) D n j up low).2 ≤ 77760000000000 ∧ y_R sp ph d 222 82 [some (y_bo 11 0 49), none, none, none, some (y_bl up), none, some (y_bl low), none, some (y_bi (j : Int))] [] m = y_R sp ph d 222 153 [none, none, none, none, some (y_bl (q_ru A (q_P A B) D n j up low).1), none, some (y_bl (q_ru A (q_P A B) D n j up low).2), none, none] [] m := by
  intro n
  induction n with
  | zero =>
    intro j up low t hj h1 ht hl hl' hu hu' hb
    rw [q_ru]
    have e : t * 600 ^ 0 = t := by simp
    rw [e] at hb
    refine ⟨by omega, by omega, by omega, by omega, ?_⟩
    rw [y_E_222_82]
    simp (disch := omega) only [z_w_id, if_pos, if_neg, e_g, e_bI, e_bV, e_bL, e_II, e_II', e_IJ, e_JI, e_JJ, e_JJ', reduceIte, not_true_eq_false, not_false_eq_true, true_or, or_true, true_and, and_true, e_nb0, e_gT]
  | succ n ih =>
    intro j up low t hj h1 ht hl hl' hu hu' hb
    obtain ⟨z1, z2, z3⟩ := hs.2.2.2 j h1 (by omega)
    have hpj := hp j (by omega)
    have a1 : y_mI m 74 j = q_P A B j := (q_RR_Y h h1 (by omega) true).2.2.2.2.2.2.1
    have p := q_P_b (B := B) (k := j) h.1 h.2.1 h.2.2.1 (by omega)
    have hA := h.2.1
    have hA2 := h.2.2.2.1
    have eb : t * 600 ^ (n + 1) = t * 600 * 600 ^ n := by rw [Int.pow_succ, Int.mul_comm (600 ^ n) 600, Int.mul_assoc]
    have pn : (1 : Int) ≤ 600 ^ n := Int.pow_pos (by decide)
    have hb2 : t * 600 ^ n ≤ 77760000000000 := by
      have : t * 600 ^ n * 1 ≤ t * 600 ^ n * 600 := Int.mul_le_mul_of_nonneg_left (by decide) (Int.mul_nonneg (by omega) (by omega))
      rw [eb] at hb
      rw [show t * 600 * 600 ^ n = t * 600 ^ n * 600 by rw [Int.mul_right_comm]] at hb
      omega
    have u1 := q_bnd (x := up) (b := 30000 * t) (q := 504) (by omega) hu' (show (0 : Int) ≤ q_P A B j by omega) (show (q_P A B j : Int) ≤ 504 by omega) (by omega)
    have v1 : 0 ≤ up * (q_P A B j : Int) := Int.mul_nonneg hu (by omega)
    have u0 := q_bnd (x := D j) (p := A) (b := 24) (q := 99) (by omega) (by omega) (by omega) (by omega) (by decide)
    have v0 : 0 ≤ D j * (A : Int) := Int.mul_nonneg hpj (by omega)
    have u2 := q_bnd (x := D j * A) (p := low) (b := 2376) (q := t) (by omega) (by omega) (by omega) hl' (by decide)
    have v2 : 0 ≤ D j * (A : Int) * low := Int.mul_nonneg v0 (by omega)
    have u4 := q_bnd (x := low) (p := q_P A B j) (b := t) (q := 504) (by omega) (by omega) (by omega) (by omega) (by omega)
    have u5 : 1 ≤ low * (q_P A B j : Int) := by
      have : 1 * 1 ≤ low * (q_P A B j : Int) := Int.mul_le_mul hl (by omega) (by decide) (by omega)
      omega
    rw [y_E_222_82, q_ru]
    by_cases q : D j = 0
    · obtain ⟨i1, i2, i3, i4, i5⟩ := ih (j + 1) up low t (by omega) (by omega) ht hl hl' hu hu' hb2
      rw [if_pos q]
      refine ⟨i1, i2, i3, i4, ?_⟩
      simp (disch := omega) only [z_w_id, if_pos, if_neg, e_g, e_bI, e_bV, e_bL, e_II, e_II', e_IJ, e_JI, e_JJ, e_JJ', reduceIte, not_true_eq_false, not_false_eq_true, true_or, or_true, true_and, and_true, e_nb0, e_gT, Int.toNat_natCast, z1, y_E_222_147]
      exact i5
    · obtain ⟨i1, i2, i3, i4, i5⟩ := ih (j + 1) (up * q_P A B j + D j * A * low) (low * q_P A B j) (t * 600) (by omega) (by omega) (by omega) u5 (by omega) (by omega) (by omega) (by rw [← eb]; exact hb)
      rw [if_neg q]
      refine ⟨i1, i2, i3, i4, ?_⟩
      simp (disch := omega) only [z_w_id, if_pos, if_neg, e_g, e_bI, e_bV, e_bL, e_II, e_II', e_IJ, e_JI, e_JJ, e_JJ', reduceIte, not_true_eq_false, not_false_eq_true, true_or, or_true, true_and, and_true, e_nb0, e_gT, Int.toNat_natCast, z1, y_E_222_101, a1, hA2, y_E_222_147]
      exact i5
theorem l_222c {m : y_m} {n8 : Nat} (h8 : n8 ≤ 20) : ∀ (n i : Nat) (v : Int), i + n = n8 → v = q_B10 (y_mJ m 93) i → y_R sp ph d 222 189 [some (y_bo 11 0 49), none, some (y_bi ((n8 : Int) - 8)), none, some (y_bi v), some (y_bi (i : Int)), none, none, none] [] m = y_rI (q_B10 (y_mJ m 93) n8) m := by
  intro n
  induction n with
  | zero =>
    intro i v hi hv
    have : i = n8 := by omega
    subst this
    rw [y_E_222_189]
    simp (disch := omega) only [z_w_id, if_pos, if_neg, e_g, e_bI, e_bV, e_bL, e_II, e_II', e_IJ, e_JI, e_JJ, e_JJ', reduceIte, not_true_eq_false, not_false_eq_true, true_or, or_true, true_and, and_true, e_nb0, e_gT, y_E_222_220]
    rw [hv]
  | succ n ih =>
    intro i v hi hv
    rw [y_E_222_189]
    simp (disch := omega) only [z_w_id, if_pos, if_neg, e_g, e_bI, e_bV, e_bL, e_II, e_II', e_IJ, e_JI, e_JJ, e_JJ', reduceIte, not_true_eq_false, not_false_eq_true, true_or, or_true, true_and, and_true, e_nb0, e_gT, Int.toNat_natCast]
    exact ih (i + 1) _ (by omega) (by rw [hv, q_B10])
theorem t_222 {D : Nat → Int} {pull : Bool} (h : q_RR m A B) (hs : q_sum m D) (hp : ∀ k, k < 6 → 0 ≤ D k) (hl : q_iw (q_Fr A B) D 5 1 true = true → pull = true → (q_ru A (q_P A B) D 5 1 (D 0) 1).2 ≤ 9000000000000) : ∃ m', y_V sp ph (d + 2) 222 [y_bo 11 0 49, y_bi (n_b pull)] m = y_rI (q_cu pull A B D) m' ∧ q_F (fun a _ => a = 93) m m' := by
  have l1 := l_222a (sp := sp) (ph := ph) (d := d + 1) (pull := pull) (x2 := if pull then 6 else 3) h hs 5 1 true (by omega) (by omega)
  have l1' : y_R sp ph (d + 1) 222 16 [some (y_bo 11 0 49), some (y_bi (n_b pull)), some (y_bi (if pull = true then 6 else 3)), some (y_bi 1), some (y_bi 1), none, none, none, none] [] m = _ := l1
  have e0 : y_R sp ph (d + 1) 222 0 [some (y_bo 11 0 49), some (y_bi (n_b pull)), none, none, none, none, none, none, none] [] m = y_R sp ph (d + 1) 222 16 [some (y_bo 11 0 49), some (y_bi (n_b pull)), some (y_bi (if pull = true then 6 else 3)), some (y_bi 1), some (y_bi 1), none, none, none, none] [] m := by
    rw [y_E_222_0]
    cases pull
    · simp only [e_nb0, reduceIte, y_E_222_9, y_E_222_10, Bool.false_eq_true]
    · simp only [e_nb0, reduceIte, y_E_222_10, Bool.true_eq_false]
  have hd0 := hs.1
  have hd1 := hs.2.2.1
  have hd2 := hp 0 (by decide)
  simp only [y_C_222]
  rw [e0, l1', y_E_222_59]
  simp only [e_nb0]
  unfold q_cu
  have pl : ∃ m', y_R sp ph (d + 1) 222 178 [some (y_bo 11 0 49), some (y_bi (n_b pull)), some (y_bi (if pull = true then 6 else 3)), none, none, none, none, none, none] [] m = y_rI (q_NN pull A B D / 10 ^ (if pull then 214 else 217)) m' ∧ q_F (fun a _ => a = 93) m m' := by
    obtain ⟨m', r1, r2, r3, r4, -, -, r5⟩ := t_216 (sp := sp) (ph := ph) (d := d) (pull := pull) (q_sum_pb h hs)
    rw [q_pn_Y h pull] at r5
    refine ⟨m', ?_, r2⟩
    simp only [y_E_222_178, r1, e_bV]
    have hc : ∀ n8 k : Nat, n8 + k = 228 → 1 ≤ n8 → n8 ≤ 20 → y_R sp ph (d + 1) 222 189 [some (y_bo 11 0 49), none, some (y_bi ((n8 : Int) - 8)), none, some (y_bi 0), some (y_bi 0), none, none, none] [] m' = y_rI (q_NN pull A B D / 10 ^ k) m' := by
      intro n8 k hn h1 h2
      have l3 := l_222c (sp := sp) (ph := ph) (d := d + 1) (m := m') (n8 := n8) h2 n8 0 0 (by omega) rfl
      have dv := q_B10_div (f := y_mJ m' 93) (n := n8) k (fun i a b => r4 i (by omega) (by omega))
      rw [hn, r5] at dv
      have hpw := n_pow_pos k
      have : q_B10 (y_mJ m' 93) n8 = q_NN pull A B D / 10 ^ k := by
        refine Int.le_antisymm ((Int.le_ediv_iff_mul_le hpw).mpr dv.1) ?_
        have : q_NN pull A B D / 10 ^ k < q_B10 (y_mJ m' 93) n8 + 1 := Int.ediv_lt_of_lt_mul hpw (by rw [Int.add_mul, Int.one_mul]; exact dv.2)
        omega
      rw [← this]
      exact l3
    cases pull
    · exact hc 11 217 (by decide) (by decide) (by decide)
    · exact hc 14 214 (by decide) (by decide) (by decide)
  cases hw : q_iw (q_Fr A B) D 5 1 true
  · rw [if_pos rfl]
    simp only [Bool.false_and, Bool.false_eq_true, reduceIte]
    exact pl
  · rw [if_neg (by decide)]
    cases hpu : pull
    · subst hpu
      simp only [Bool.and_false, Bool.false_eq_true, reduceIte]
      exact pl
    · subst hpu
      simp only [Bool.and_true, reduceIte, Bool.true_eq_false]
      obtain ⟨i1, i2, i3, i4, i5⟩ := l_222b (sp := sp) (ph := ph) (d := d + 1) h hs hp 5 1 (D 0) 1 1 (by omega) (by omega) (by omega) (by omega) (by omega) (by omega) (by omega) (by decide)
      have i5' : y_R sp ph (d + 1) 222 82 [some (y_bo 11 0 49), none, none, none, some (y_bl (D 0)), none, some (y_bl 1), none, some (y_bi 1)] [] m = _ := i5
      have hll := hl hw rfl
      refine ⟨m, ?_, q_F_refl⟩
      rw [hd0, z_w_id (by omega) (by omega), i5', y_E_222_153]
      generalize (q_ru A (q_P A B) D 5 1 (D 0) 1).1 = up at *
      generalize (q_ru A (q_P A B) D 5 1 (D 0) 1).2 = low at *
      have n0 : z_wl low ≠ 0 := by rw [z_wl_id (by omega) (by omega)]; omega
      have m0 : 0 ≤ up % low := Int.emod_nonneg _ (by omega)
      have m1 : up % low < low := Int.emod_lt_of_pos _ (by omega)
      rw [e_g n0, e_g n0, e_g n0, n_ldiv i1 (by omega) (by omega) (by omega), n_lrem i1 (by omega) (by omega) (by omega), n_ldiv (by omega) (by omega) (by omega) (by omega)]
theorem t_221 {x : Nat} {pull : Bool} (h : q_RR m A B) (hx : x < 167772160000) (hl : q_iw (q_Fr A B) (q_dec pull x) 5 1 true = true → pull = true → (q_ru A (q_P A B) (q_dec pull x) 5 1 (q_dec pull x 0) 1).2 ≤ 9000000000000) : ∃ m', y_V sp ph (d + 3) 221 [y_bo 11 0 49, y_bl (x : Int), y_bi (n_b pull)] m = y_rI (q_cu pull A B (q_dec pull x)) m' ∧ q_F (fun a _ => a = 92 ∨ a = 93) m m' := by
  obtain ⟨m1, a1, a2, a3⟩ := t_220 (sp := sp) (ph := ph) (d := d) (m := m) (pull := pull) hx
  have d0 := q_dec_0 pull hx
  have dk : ∀ k, k < 6 → 0 ≤ q_dec pull x k := fun k hk => by
    by_cases q : k = 0
    · subst q; exact d0.1
    · exact (q_dec_b pull (by omega)).1
  obtain ⟨m2, b1, b2⟩ := t_222 (sp := sp) (ph := ph) (d := d) (D := q_dec pull x) (pull := pull) (q_RR_F h a2 (by unfold q_wr; omega)) ⟨a3 0 (by decide), by omega, by omega, fun k a b => ⟨a3 k b, by have := q_dec_b pull (c := x) a; omega, by have := q_dec_b pull (c := x) a; omega⟩⟩ dk hl
  refine ⟨m2, ?_, q_F_trans (q_F_mono a2 (fun a j q => Or.inl q)) (q_F_mono b2 (fun a j q => Or.inr q))⟩
  simp only [y_C_221, y_E_221_0, a1, e_bV, b1, e_bI]
/-- no longer than the lace -/
def q_dX (c X k : Nat) : Int := q_dec false c k - (if k = 0 then (X : Int) else 0)
theorem t_233 {x X : Nat} (h : q_RR m A B) (hx : x < 167772160000) (hX : y_mI m 52 5 = (X : Int)) (hX' : X ≤ 9999) : ∃ m', y_V sp ph (d + 3) 233 [y_bo 11 0 49, y_bl (x : Int)] m = y_rI (n_b (decide (q_sn false A B (q_dX x X) ≤ 0))) m' ∧ q_F (fun a _ => a = 92 ∨ a = 93) m m' := by
  obtain ⟨m1, a1, a2, a3⟩ := t_220 (sp := sp) (ph := ph) (d := d) (m := m) (pull := false) hx
  have a1' : y_V sp ph (d + 2) 220 [y_bo 11 0 49, y_bl (x : Int), y_bi 0] m = _ := a1
  have d0 := q_dec_0 false hx
  have f1 : q_F (fun a _ => a = 92 ∨ a = 93) m (y_sI m1 92 0 (y_mI m1 92 0 - y_mI m1 52 5)) := q_F_trans (q_F_mono a2 (fun a j q => Or.inl q)) (q_F_sI (Or.inl rfl))
  obtain ⟨m2, b1, b2⟩ := t_217' (sp := sp) (ph := ph) (d := d) (D := q_dX x X) (pull := false) (m := y_sI m1 92 0 (y_mI m1 92 0 - y_mI m1 52 5)) (q_RR_F h f1 (by unfold q_wr; omega)) ⟨by
      rw [e_II, a3 0 (by decide), q_F_I a2 52 5 (by omega), hX]; rfl, by unfold q_dX; rw [if_pos rfl]; omega, by unfold q_dX; rw [if_pos rfl]; omega, fun k a b => by
      have := q_dec_b false (c := x) a
      rw [e_II' (by omega), a3 k b]
      unfold q_dX; rw [if_neg (by omega)]; omega⟩
  have b1' : y_V sp ph (d + 2) 217 [y_bo 11 0 49, y_bi 0] (y_sI m1 92 0 (y_mI m1 92 0 - y_mI m1 52 5)) = _ := b1
  have s1 := q_sn_b false A B (q_dX x X)
  refine ⟨m2, ?_, q_F_trans f1 (q_F_mono b2 (fun a j q => Or.inr q))⟩
  simp only [y_C_233, y_E_233_0, a1', e_bV, b1', e_bI]
  by_cases c : q_sn false A B (q_dX x X) ≤ 0
  · simp (disch := omega) only [z_w_id, if_pos, if_neg, e_g, e_bI, e_bV, e_bL, e_II, e_II', e_IJ, e_JI, e_JJ, e_JJ', reduceIte, not_true_eq_false, not_false_eq_true, true_or, or_true, true_and, and_true, e_nb0, e_gT, y_E_233_34]
    rw [decide_eq_true c]; rfl
  · simp (disch := omega) only [z_w_id, if_pos, if_neg, e_g, e_bI, e_bV, e_bL, e_II, e_II', e_IJ, e_JI, e_JJ, e_JJ', reduceIte, not_true_eq_false, not_false_eq_true, true_or, or_true, true_and, and_true, e_nb0, e_gT, y_E_233_33, y_E_233_34]
    rw [decide_eq_false c]; rfl
/-- twice a sum, and more, less another -/
def q_d2 (x : Nat) (e : Int) (y k : Nat) : Int := 2 * q_dec false x k + (if k = 0 then e else 0) - q_dec false y k
theorem l_284 {x y : Nat} {e : Int} (hx : x < 167772160000) (hy : y < 167772160000) : ∀ (n k : Nat) (m : y_m), k + n = 6 → 1 ≤ k → ∃ m', y_R sp ph (d + 1) 284 23 [some (y_bo 11 0 49), some (y_bl (x : Int)), none, none, some (y_bl (y : Int)), none, some (y_bi (k : Int))] [] m = y_R sp ph (d + 1) 284 58 [some (y_bo 11 0 49), none, none, none, none, none, none] [] m' ∧ q_F (fun a j => a = 92 ∧ k ≤ j) m m' ∧ ∀ j, k ≤ j → j < 6 → y_mI m' 92 j = q_d2 x e y j := by
  intro n
  induction n with
  | zero =>
    intro k m hk h1
    refine ⟨m, ?_, q_F_refl, fun j a b => absurd b (by omega)⟩
    rw [y_E_284_23]
    simp (disch := omega) only [z_w_id, if_pos, if_neg, e_g, e_bI, e_bV, e_bL, e_II, e_II', e_IJ, e_JI, e_JJ, e_JJ', reduceIte, not_true_eq_false, not_false_eq_true, true_or, or_true, true_and, and_true, e_nb0, e_gT]
  | succ n ih =>
    intro k m hk h1
    obtain ⟨m', r1, r2, r3⟩ := ih (k + 1) (y_sI m 92 k (2 * ((x / 16 ^ k % 16 : Nat) : Int) - ((y / 16 ^ k % 16 : Nat) : Int))) (by omega) (by omega)
    refine ⟨m', ?_, q_F_trans (q_F_sI ⟨rfl, Nat.le_refl _⟩) (q_F_mono r2 (fun a j q => ⟨q.1, by omega⟩)), fun j a b => ?_⟩
    · rw [y_E_284_23]
      simp (disch := omega) only [z_w_id, if_pos, if_neg, e_g, e_bI, e_bV, e_bL, e_II, e_II', e_IJ, e_JI, e_JJ, e_JJ', reduceIte, not_true_eq_false, not_false_eq_true, true_or, or_true, true_and, and_true, e_nb0, e_gT, Int.toNat_natCast, t_214]
      exact r1
    · by_cases q : j = k
      · subst q
        rw [q_F_I r2 92 j (by omega), e_II]
        unfold q_d2 q_dec
        rw [if_neg (by omega), if_neg (by omega), if_neg (by omega)]; omega
      · exact r3 j (by omega) b
theorem t_284 {x y : Nat} {e : Int} (h : q_RR m A B) (hx : x < 167772160000) (hy : y < 167772160000) (he : -2000 ≤ e) (he' : e ≤ 2000) (hD : ∀ k, 1 ≤ k → k < 6 → -24 ≤ q_d2 x e y k ∧ q_d2 x e y k ≤ 24) : ∃ m', y_V sp ph (d + 3) 284 [y_bo 11 0 49, y_bl (x : Int), y_bi e, y_bl (y : Int)] m = y_rI (q_sn false A B (q_d2 x e y)) m' ∧ q_F (fun a _ => a = 92 ∨ a = 93) m m' := by
  have d0 := q_dec_0 false hx
  have d1 := q_dec_0 false hy
  have e0 : q_d2 x e y 0 = 2 * ((x / 16777216 : Nat) : Int) + e - ((y / 16777216 : Nat) : Int) := rfl
  have b0 : -30000 ≤ q_d2 x e y 0 ∧ q_d2 x e y 0 ≤ 30000 := by unfold q_d2; rw [if_pos rfl]; omega
  obtain ⟨m1, a1, a2, a3⟩ := l_284 (sp := sp) (ph := ph) (d := d + 1) (e := e) hx hy 5 1 (y_sI m 92 0 (q_d2 x e y 0)) (by omega) (by omega)
  have a1' : y_R sp ph (d + 2) 284 23 [some (y_bo 11 0 49), some (y_bl (x : Int)), none, none, some (y_bl (y : Int)), none, some (y_bi 1)] [] (y_sI m 92 0 (q_d2 x e y 0)) = _ := a1
  have f1 : q_F (fun a _ => a = 92 ∨ a = 93) m m1 := q_F_trans (q_F_sI (Or.inl rfl)) (q_F_mono a2 (fun a j q => Or.inl q.1))
  obtain ⟨m2, b1, b2⟩ := t_217' (sp := sp) (ph := ph) (d := d) (D := q_d2 x e y) (pull := false) (m := m1) (q_RR_F h f1 (by unfold q_wr; omega)) ⟨by rw [q_F_I a2 92 0 (by omega), e_II], b0.1, b0.2, fun k a b => ⟨a3 k a b, hD k a b⟩⟩
  have b1' : y_V sp ph (d + 2) 217 [y_bo 11 0 49, y_bi 0] m1 = _ := b1
  refine ⟨m2, ?_, q_F_trans f1 (q_F_mono b2 (fun a j q => Or.inr q))⟩
  rw [e0] at a1'
  simp (disch := omega) only [y_C_284, y_E_284_0, t_213, e_bI]
  rw [a1', y_E_284_58, b1']
  simp only [e_bI]
end Cut2
