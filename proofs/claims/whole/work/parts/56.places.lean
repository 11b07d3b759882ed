/-! ===== the reference: places, signs ===== -/
theorem n_ldiv10 {x : Int} (h1 : -4611686018427387904 ≤ x) (h2 : x < 4611686018427387904) : z_ldiv x 10 = if 0 ≤ x then x / 10 else -((-x) / 10) := by
  by_cases h : 0 ≤ x
  · rw [if_pos h, n_ldiv h (by omega) (by decide) (by decide)]
  · have hd : 0 ≤ (-x) / 10 := Int.ediv_nonneg (by omega) (by decide)
    have hl : (-x) / 10 ≤ -x := Int.ediv_le_self _ (by omega)
    have e1 : x.tdiv 10 = -((-x) / 10) := by
      have := Int.neg_tdiv (-x) 10
      rw [Int.neg_neg] at this
      rw [this, Int.tdiv_eq_ediv_of_nonneg (by omega)]
    rw [if_neg h, z_ldiv, Int64.toInt_div, n_oil (by omega) (by omega), n_oil (by decide) (by decide), e1]
    have e : ((2 : Nat) ^ 64 : Nat) = 18446744073709551616 := rfl
    rw [Int.bmod_eq_of_le] <;> omega
/-- the digits of the roots, or of what they divide -/
def q_X (m : y_m) (pull : Bool) (k i : Nat) : Int := if pull then y_mI m (84 + k) i else y_mI m (77 + k) i
def q_XV (m : y_m) (pull : Bool) (k n : Nat) : Int := if pull then q_B10 (y_mI m (84 + k)) n else q_B10 (y_mI m (77 + k)) n
def q_pn (m : y_m) (pull : Bool) (D : Nat → Int) (n : Nat) : Int := D 1 * q_XV m pull 1 n + D 2 * q_XV m pull 2 n + D 3 * q_XV m pull 3 n + D 4 * q_XV m pull 4 n + D 5 * q_XV m pull 5 n
def q_pd (m : y_m) (pull : Bool) (D : Nat → Int) (i : Nat) : Int := D 1 * q_X m pull 1 i + D 2 * q_X m pull 2 i + D 3 * q_X m pull 3 i + D 4 * q_X m pull 4 i + D 5 * q_X m pull 5 i
theorem q_pn_succ (m : y_m) (pull : Bool) (D : Nat → Int) (n : Nat) : q_pn m pull D (n + 1) = 10 * q_pn m pull D n + q_pd m pull D n := by
  unfold q_pn q_pd q_XV q_X
  cases pull
  · simp only [q_B10, Bool.false_eq_true, reduceIte]; grind
  · simp only [q_B10, reduceIte]; grind
/-- what places rest on: the sum, the digits -/
def q_pb (m : y_m) (D : Nat → Int) : Prop := y_mI m 92 0 = D 0 ∧ -30000 ≤ D 0 ∧ D 0 ≤ 30000 ∧ ∀ k, 1 ≤ k → k < 6 → y_mI m 92 k = D k ∧ -24 ≤ D k ∧ D k ≤ 24 ∧ q_dig (y_mI m (77 + k)) 228 ∧ q_dig (y_mI m (84 + k)) 228
theorem q_X_b {m : y_m} {D : Nat → Int} (h : q_pb m D) (pull : Bool) {k i : Nat} (h1 : 1 ≤ k) (h2 : k < 6) (hi : i < 228) : 0 ≤ q_X m pull k i ∧ q_X m pull k i ≤ 9 := by
  obtain ⟨-, -, -, hh⟩ := h
  obtain ⟨-, -, -, a1, a2⟩ := hh k h1 h2
  unfold q_X
  split
  · exact a2 i hi
  · exact a1 i hi
theorem q_pd_b {m : y_m} {D : Nat → Int} (h : q_pb m D) (pull : Bool) {i : Nat} (hi : i < 228) : -1080 ≤ q_pd m pull D i ∧ q_pd m pull D i ≤ 1080 := by
  have hh := h.2.2.2
  have b : ∀ k, 1 ≤ k → k < 6 → -(24 * 9) ≤ D k * q_X m pull k i ∧ D k * q_X m pull k i ≤ 24 * 9 := fun k h1 h2 => by
    have x := q_X_b h pull h1 h2 hi
    have y := hh k h1 h2
    exact q_bnd (b := 24) (q := 9) (by omega) (by omega) x.1 x.2 (by decide)
  have b1 := b 1 (by decide) (by decide)
  have b2 := b 2 (by decide) (by decide)
  have b3 := b 3 (by decide) (by decide)
  have b4 := b 4 (by decide) (by decide)
  have b5 := b 5 (by decide) (by decide)
  unfold q_pd
  omega
theorem q_pb_J {m m' : y_m} {D : Nat → Int} (h : q_pb m D) (e : ∀ a k, y_mI m' a k = y_mI m a k) : q_pb m' D := by
  have e' : ∀ a, y_mI m' a = y_mI m a := fun a => funext fun k => e a k
  unfold q_pb
  simp only [e']
  exact h
theorem q_B10_ext {f g : Nat → Int} {k : Nat} (h : q_B10 f k = q_B10 g k) : ∀ (j : Nat), (∀ i, k ≤ i → i < k + j → f i = g i) → q_B10 f (k + j) = q_B10 g (k + j)
  | 0, _ => h
  | j + 1, e => by rw [← Nat.add_assoc, q_B10, q_B10, q_B10_ext h j (fun i h1 h2 => e i h1 (by omega)), e (k + j) (by omega) (by omega)]
theorem q_B10_div {f : Nat → Int} {n : Nat} : ∀ (j : Nat), (∀ i, n ≤ i → i < n + j → 0 ≤ f i ∧ f i ≤ 9) → q_B10 f n * 10 ^ j ≤ q_B10 f (n + j) ∧ q_B10 f (n + j) < q_B10 f n * 10 ^ j + 10 ^ j
  | 0, _ => by
    have e : (10 : Int) ^ 0 = 1 := rfl
    rw [e, Nat.add_zero]; omega
  | j + 1, e => by
    have ih := q_B10_div j (fun i h1 h2 => e i h1 (by omega))
    have a := e (n + j) (by omega) (by omega)
    rw [← Nat.add_assoc, q_B10, Int.pow_succ, ← Int.mul_assoc]
    omega
def q_pv (m : y_m) (pull : Bool) (D : Nat → Int) (i : Nat) : Int := (if i = 7 then D 0 else 0) + q_pd m pull D i
theorem q_pv_lo (m : y_m) (pull : Bool) (D : Nat → Int) : ∀ n, n ≤ 7 → q_B10 (q_pv m pull D) n = q_pn m pull D n
  | 0, _ => by unfold q_pn q_XV; simp [q_B10]
  | n + 1, h => by
    rw [q_B10, q_pv_lo m pull D n (by omega), q_pn_succ, q_pv, if_neg (by omega)]; omega
theorem q_pv_hi (m : y_m) (pull : Bool) (D : Nat → Int) : ∀ n, q_B10 (q_pv m pull D) (8 + n) = D 0 * 10 ^ n + q_pn m pull D (8 + n)
  | 0 => by
    rw [show 8 + 0 = 7 + 1 from rfl, q_B10, q_pv_lo m pull D 7 (by decide), q_pn_succ m pull D 7, q_pv, if_pos rfl]; simp; omega
  | n + 1 => by
    rw [← Nat.add_assoc, q_B10, q_pv_hi m pull D n, q_pn_succ, q_pv, if_neg (by omega), Int.pow_succ]; grind
theorem q_S_15 (f : Nat → Int) : q_S f 1 5 = f 1 + (f 2 + (f 3 + (f 4 + (f 5 + 0)))) := rfl
section Places
variable {sp : Nat → Nat} {ph : Bool} {d : Nat}
theorem l_216a {D : Nat → Int} {pull : Bool} {i : Nat} (hi : i < 228) : ∀ (n k : Nat) (m : y_m), q_pb m D → k + n = 6 → 1 ≤ k → ∃ m', y_R sp ph d 216 34 [some (y_bo 11 0 49), some (y_bi (n_b pull)), some (y_bi (i : Int)), some (y_bi (k : Int)), none] [] m = y_R sp ph d 216 86 [some (y_bo 11 0 49), some (y_bi (n_b pull)), some (y_bi (i : Int)), none, none] [] m' ∧ q_F (fun a j => a = 93 ∧ j = i) m m' ∧ (∀ a j, y_mI m' a j = y_mI m a j) ∧ y_mJ m' 93 i = y_mJ m 93 i + q_S (fun k => D k * q_X m pull k i) k n := by
  intro n
  induction n with
  | zero =>
    intro k m h hk h1
    refine ⟨m, ?_, q_F_refl, fun _ _ => rfl, by rw [q_S, Int.add_zero]⟩
    rw [y_E_216_34]
    simp (disch := omega) only [z_w_id, if_pos, if_neg, e_g, e_bI, e_bV, e_bL, e_II, e_II', e_IJ, e_JI, e_JJ, e_JJ', reduceIte, not_true_eq_false, not_false_eq_true, true_or, or_true, true_and, and_true, e_nb0, e_gT]
  | succ n ih =>
    intro k m h hk h1
    obtain ⟨b1, b2, b3, b4, b5⟩ := h.2.2.2 k h1 (by omega)
    have g1 := b4 i hi
    have g2 := b5 i hi
    obtain ⟨m', r1, r2, r3, r4⟩ := ih (k + 1) (y_sJ m 93 i (y_mJ m 93 i + D k * q_X m pull k i)) (q_pb_J h (fun _ _ => rfl)) (by omega) (by omega)
    refine ⟨m', ?_, q_F_trans (q_F_sJ ⟨rfl, rfl⟩) r2, fun a j => r3 a j, ?_⟩
    · rw [y_E_216_34]
      cases pull with
      | true =>
        simp (disch := omega) only [z_w_id, if_pos, if_neg, e_g, e_bI, e_bV, e_bL, e_II, e_II', e_IJ, e_JI, e_JJ, e_JJ', reduceIte, not_true_eq_false, not_false_eq_true, true_or, or_true, true_and, and_true, e_nb0, e_gT, Int.toNat_natCast, b1, y_E_216_76, Nat.one_mul]
        exact r1
      | false =>
        simp (disch := omega) only [z_w_id, if_pos, if_neg, e_g, e_bI, e_bV, e_bL, e_II, e_II', e_IJ, e_JI, e_JJ, e_JJ', reduceIte, not_true_eq_false, not_false_eq_true, true_or, or_true, true_and, and_true, e_nb0, e_gT, Int.toNat_natCast, b1, y_E_216_76, y_E_216_68, Nat.one_mul]
        exact r1
    · rw [r4, e_JJ, q_S, Int.add_assoc]; rfl
theorem l_216b {D : Nat → Int} {pull : Bool} : ∀ (n i : Nat) (m : y_m), q_pb m D → i + n = 228 → ∃ m', y_R sp ph d 216 2 [some (y_bo 11 0 49), some (y_bi (n_b pull)), some (y_bi (i : Int)), none, none] [] m = y_R sp ph d 216 92 [some (y_bo 11 0 49), none, none, none, none] [] m' ∧ q_F (fun a _ => a = 93) m m' ∧ (∀ a j, y_mI m' a j = y_mI m a j) ∧ (∀ j, j < i → y_mJ m' 93 j = y_mJ m 93 j) ∧ ∀ j, i ≤ j → j < 228 → y_mJ m' 93 j = q_pv m pull D j := by
  intro n
  induction n with
  | zero =>
    intro i m h hi
    refine ⟨m, ?_, q_F_refl, fun _ _ => rfl, fun _ _ => rfl, fun j h1 h2 => absurd h2 (by omega)⟩
    rw [y_E_216_2]
    simp (disch := omega) only [z_w_id, if_pos, if_neg, e_g, e_bI, e_bV, e_bL, e_II, e_II', e_IJ, e_JI, e_JJ, e_JJ', reduceIte, not_true_eq_false, not_false_eq_true, true_or, or_true, true_and, and_true, e_nb0, e_gT]
  | succ n ih =>
    intro i m h hi
    have hd0 := h.2.1
    have hd1 := h.2.2.1
    obtain ⟨m1, a1, a2, a3, a4⟩ := l_216a (sp := sp) (ph := ph) (d := d) (D := D) (pull := pull) (i := i) (by omega) 5 1 (y_sJ m 93 i (if i = 7 then D 0 else 0)) (q_pb_J h (fun _ _ => rfl)) (by omega) (by omega)
    have a1' : y_R sp ph d 216 34 [some (y_bo 11 0 49), some (y_bi (n_b pull)), some (y_bi (i : Int)), some (y_bi 1), none] [] (y_sJ m 93 i (if i = 7 then D 0 else 0)) = _ := a1
    have e4 : y_mJ m1 93 i = q_pv m pull D i := by
      rw [a4, e_JJ, q_pv]
      show _ + q_S (fun k => D k * q_X m pull k i) 1 5 = _
      rw [q_S_15, q_pd]; omega
    obtain ⟨m', r1, r2, r3, r4, r5⟩ := ih (i + 1) m1 (q_pb_J h (fun a j => by rw [a3]; rfl)) (by omega)
    have ev : ∀ j, q_pv m1 pull D j = q_pv m pull D j := by
      intro j
      have : ∀ k, q_X m1 pull k j = q_X m pull k j := by intro k; unfold q_X; rw [a3, a3]; rfl
      unfold q_pv q_pd; simp only [this]
    refine ⟨m', ?_, q_F_trans (q_F_trans (q_F_sJ rfl) (q_F_mono a2 (fun a j h => h.1))) r2, fun a j => by rw [r3, a3]; rfl, fun j hj => ?_, fun j h1 h2 => ?_⟩
    · rw [y_E_216_2]
      by_cases q : i = 7
      · subst q
        simp (disch := omega) only [z_w_id, if_pos, if_neg, e_g, e_bI, e_bV, e_bL, e_II, e_II', e_IJ, e_JI, e_JJ, e_JJ', reduceIte, not_true_eq_false, not_false_eq_true, true_or, or_true, true_and, and_true, e_nb0, e_gT, Int.toNat_natCast, y_E_216_31, h.1]
        have a1'' : y_R sp ph d 216 34 [some (y_bo 11 0 49), some (y_bi (n_b pull)), some (y_bi ((7 : Nat) : Int)), some (y_bi 1), none] [] (y_sJ m 93 7 (D 0)) = _ := a1'
        rw [a1'', y_E_216_86]
        exact r1
      · rw [if_neg q] at a1'
        simp (disch := omega) only [z_w_id, if_pos, if_neg, e_g, e_bI, e_bV, e_bL, e_II, e_II', e_IJ, e_JI, e_JJ, e_JJ', reduceIte, not_true_eq_false, not_false_eq_true, true_or, or_true, true_and, and_true, e_nb0, e_gT, Int.toNat_natCast, y_E_216_30, y_E_216_31]
        rw [a1', y_E_216_86]
        exact r1
    · rw [r4 j (by omega), q_F_J a2 93 j (by omega), e_JJ' (by omega)]
    · by_cases q : j = i
      · subst q; rw [r4 j (by omega), e4]
      · rw [r5 j (by omega) h2, ev]
theorem l_216c {f : Nat → Int} (hf : ∀ j, j < 228 → -32000 ≤ f j ∧ f j ≤ 32000) {N : Int} : ∀ (i : Nat) (m : y_m), i < 228 → (∀ j, j < i → y_mJ m 93 j = f j) → -36000 ≤ y_mJ m 93 i → y_mJ m 93 i ≤ 36000 → (∀ j, i < j → j < 228 → 0 ≤ y_mJ m 93 j ∧ y_mJ m 93 j ≤ 9) → q_B10 (y_mJ m 93) 228 = N → ∃ m', y_R sp ph d 216 96 [some (y_bo 11 0 49), none, some (y_bi (i : Int)), none, none] [] m = y_rV m' ∧ q_F (fun a _ => a = 93) m m' ∧ (∀ a j, y_mI m' a j = y_mI m a j) ∧ (∀ j, 1 ≤ j → j < 228 → 0 ≤ y_mJ m' 93 j ∧ y_mJ m' 93 j ≤ 9) ∧ -36000 ≤ y_mJ m' 93 0 ∧ y_mJ m' 93 0 ≤ 36000 ∧ q_B10 (y_mJ m' 93) 228 = N := by
  intro i
  induction i with
  | zero =>
    intro m hi h1 h2 h3 h4 h5
    refine ⟨m, ?_, q_F_refl, fun _ _ => rfl, fun j g1 g2 => h4 j (by omega) g2, h2, h3, h5⟩
    rw [y_E_216_96]
    simp (disch := omega) only [z_w_id, if_pos, if_neg, e_g, e_bI, e_bV, e_bL, e_II, e_II', e_IJ, e_JI, e_JJ, e_JJ', reduceIte, not_true_eq_false, not_false_eq_true, true_or, or_true, true_and, and_true, e_nb0, e_gT, y_E_216_162]
  | succ i ih =>
    intro m hi h1 h2 h3 h4 h5
    have hfi := hf i (by omega)
    have hmi := h1 i (by omega)
    have key : ∀ c : Int, c * 10 ≤ y_mJ m 93 (i + 1) → y_mJ m 93 (i + 1) ≤ c * 10 + 9 → ∃ m', y_R sp ph d 216 130 [some (y_bo 11 0 49), none, some (y_bi ((i + 1 : Nat) : Int)), some (y_bl c), none] [] m = y_rV m' ∧ q_F (fun a _ => a = 93) m m' ∧ (∀ a j, y_mI m' a j = y_mI m a j) ∧ (∀ j, 1 ≤ j → j < 228 → 0 ≤ y_mJ m' 93 j ∧ y_mJ m' 93 j ≤ 9) ∧ -36000 ≤ y_mJ m' 93 0 ∧ y_mJ m' 93 0 ≤ 36000 ∧ q_B10 (y_mJ m' 93) 228 = N := by
      intro c g1 g2
      obtain ⟨m', r1, r2, r3, r4⟩ := ih (y_sJ (y_sJ m 93 (i + 1) (y_mJ m 93 (i + 1) - 10 * c)) 93 i (f i + c)) (by omega) (fun j hj => by rw [e_JJ' (by omega), e_JJ' (by omega)]; exact h1 j (by omega)) (by rw [e_JJ]; omega) (by rw [e_JJ]; omega) (fun j q1 q2 => by
        rw [e_JJ' (by omega)]
        by_cases q : j = i + 1
        · subst q; rw [e_JJ]; omega
        · rw [e_JJ' (by omega)]; exact h4 j (by omega) q2) (by
        rw [← h5, show 228 = i + 1 + 1 + (228 - (i + 1 + 1)) by omega]
        refine q_B10_ext ?_ _ (fun j q1 q2 => by rw [e_JJ' (by omega), e_JJ' (by omega)])
        rw [q_B10, q_B10, q_B10, q_B10, e_JJ, e_JJ' (by omega), e_JJ, q_B10_congr (f := y_mJ (y_sJ (y_sJ m 93 (i + 1) (y_mJ m 93 (i + 1) - 10 * c)) 93 i (f i + c)) 93) (g := y_mJ m 93) (fun j hj => by rw [e_JJ' (by omega), e_JJ' (by omega)]), hmi]
        omega)
      refine ⟨m', ?_, q_F_trans (q_F_trans (q_F_sJ rfl) (q_F_sJ rfl)) r2, fun a j => r3 a j, r4⟩
      have e1 : (((i + 1 : Nat) : Int) - 1).toNat = i := by omega
      have e2 : ((i + 1 : Nat) : Int) + -1 = (i : Int) := by omega
      rw [y_E_216_130]
      rw [e_g (by omega), e_g (by omega), e_g (by omega), e_g (by omega), Int.toNat_natCast, e1, e2, e_JJ' (by omega), hmi]
      exact r1
    rw [y_E_216_96]
    simp (disch := omega) only [z_w_id, if_pos, if_neg, e_g, e_bI, e_bV, e_bL, e_II, e_II', e_IJ, e_JI, e_JJ, e_JJ', reduceIte, not_true_eq_false, not_false_eq_true, true_or, or_true, true_and, and_true, e_nb0, e_gT, Int.toNat_natCast, n_ldiv10]
    generalize hx : y_mJ m 93 (i + 1) = x at *
    by_cases c0 : 0 ≤ x
    · rw [if_pos c0]
      simp (disch := omega) only [n_lc_ge, if_pos]
      exact key _ (by omega) (by omega)
    · rw [if_neg c0]
      simp (disch := omega) only [n_lc_ge]
      by_cases c1 : 10 * (-(-x / 10)) ≤ x
      · rw [if_pos c1]
        exact key _ (by omega) (by omega)
      · rw [if_neg c1]
        exact key _ (by omega) (by omega)
theorem t_216 {D : Nat → Int} {pull : Bool} {m : y_m} (h : q_pb m D) : ∃ m', y_V sp ph (d + 1) 216 [y_bo 11 0 49, y_bi (n_b pull)] m = y_rV m' ∧ q_F (fun a _ => a = 93) m m' ∧ (∀ a j, y_mI m' a j = y_mI m a j) ∧ (∀ j, 1 ≤ j → j < 228 → 0 ≤ y_mJ m' 93 j ∧ y_mJ m' 93 j ≤ 9) ∧ -36000 ≤ y_mJ m' 93 0 ∧ y_mJ m' 93 0 ≤ 36000 ∧ q_B10 (y_mJ m' 93) 228 = D 0 * 10 ^ 220 + q_pn m pull D 228 := by
  obtain ⟨m1, a1, a2, a3, a4, a5⟩ := l_216b (sp := sp) (ph := ph) (d := d) (D := D) (pull := pull) 228 0 m h (by omega)
  have bv : ∀ j, j < 228 → -32000 ≤ q_pv m pull D j ∧ q_pv m pull D j ≤ 32000 := by
    intro j hj
    have x := q_pd_b h pull hj
    have y := h.2.1
    have z := h.2.2.1
    unfold q_pv
    split <;> omega
  have e5 : ∀ j, j < 228 → y_mJ m1 93 j = q_pv m pull D j := fun j hj => a5 j (by omega) hj
  have b227 := bv 227 (by decide)
  obtain ⟨m2, b1, b2, b3, b4⟩ := l_216c (sp := sp) (ph := ph) (d := d) bv (N := D 0 * 10 ^ 220 + q_pn m pull D 228) 227 m1 (by omega) (fun j hj => e5 j (by omega)) (by rw [e5 227 (by decide)]; omega) (by rw [e5 227 (by decide)]; omega) (fun j h1 h2 => absurd h1 (by omega)) (by
    rw [q_B10_congr e5]
    exact q_pv_hi m pull D 220)
  refine ⟨m2, ?_, q_F_trans a2 b2, fun a j => by rw [b3, a3], b4⟩
  simp only [y_C_216, y_E_216_0]
  have a1' : y_R sp ph d 216 2 [some (y_bo 11 0 49), some (y_bi (n_b pull)), some (y_bi 0), none, none] [] m = _ := a1
  rw [a1', y_E_216_92]
  exact b1
/-- the sign of a sum, as the reference finds it -/
def q_sv (m : y_m) (pull : Bool) (D : Nat → Int) : Int := D 0 * 1000000000000 + q_S (fun k => D k * (if pull then y_mJ m 72 k else y_mJ m 71 k)) 1 5
def q_sg (m : y_m) (pull : Bool) (A : Nat) (P Fr : Nat → Nat) (D : Nat → Int) : Int := if 1000 < q_sv m pull D then 1 else if q_sv m pull D < -1000 then -1 else if q_nt pull A P Fr D 5 1 then 0 else if D 0 * 10 ^ 220 + q_pn m pull D 228 < 0 then -1 else 1
theorem l_217 {D : Nat → Int} {pull : Bool} {m : y_m} (h : ∀ k, 1 ≤ k → k < 6 → y_mI m 92 k = D k ∧ -24 ≤ D k ∧ D k ≤ 24) : ∀ (n k : Nat) (v : Int), k + n = 6 → 1 ≤ k → y_R sp ph d 217 15 [some (y_bo 11 0 49), some (y_bi (n_b pull)), some (y_bl v), none, some (y_bi (k : Int))] [] m = y_R sp ph d 217 60 [some (y_bo 11 0 49), some (y_bi (n_b pull)), some (y_bl (v + q_S (fun k => D k * (if pull then y_mJ m 72 k else y_mJ m 71 k)) k n)), none, none] [] m := by
  intro n
  induction n with
  | zero =>
    intro k v hk h1
    rw [y_E_217_15]
    simp (disch := omega) only [z_w_id, if_pos, if_neg, e_g, e_bI, e_bV, e_bL, e_II, e_II', e_IJ, e_JI, e_JJ, e_JJ', reduceIte, not_true_eq_false, not_false_eq_true, true_or, or_true, true_and, and_true, e_nb0, e_gT]
    rw [q_S, Int.add_zero]
  | succ n ih =>
    intro k v hk h1
    obtain ⟨a1, a2, a3⟩ := h k h1 (by omega)
    rw [y_E_217_15, q_S, ← Int.add_assoc, ← ih (k + 1) _ (by omega) (by omega)]
    cases pull with
    | true =>
      simp (disch := omega) only [z_w_id, if_pos, if_neg, e_g, e_bI, e_bV, e_bL, e_II, e_II', e_IJ, e_JI, e_JJ, e_JJ', reduceIte, not_true_eq_false, not_false_eq_true, true_or, or_true, true_and, and_true, e_nb0, e_gT, Int.toNat_natCast, a1, y_E_217_51]
      rfl
    | false =>
      simp (disch := omega) only [z_w_id, if_pos, if_neg, e_g, e_bI, e_bV, e_bL, e_II, e_II', e_IJ, e_JI, e_JJ, e_JJ', reduceIte, not_true_eq_false, not_false_eq_true, true_or, or_true, true_and, and_true, e_nb0, e_gT, Int.toNat_natCast, a1, y_E_217_51, y_E_217_44]
      rfl
theorem t_217 {A : Nat} {P Fr : Nat → Nat} {D : Nat → Int} {pull : Bool} {m : y_m} (h : q_nb m A P Fr D) (h2 : q_pb m D) (h3 : ∀ k, 1 ≤ k → k < 6 → 0 ≤ y_mJ m 71 k ∧ y_mJ m 71 k ≤ 1000000000000000 ∧ 0 ≤ y_mJ m 72 k ∧ y_mJ m 72 k ≤ 1000000000000000) : ∃ m', y_V sp ph (d + 2) 217 [y_bo 11 0 49, y_bi (n_b pull)] m = y_rI (q_sg m pull A P Fr D) m' ∧ q_F (fun a _ => a = 93) m m' ∧ (∀ a j, y_mI m' a j = y_mI m a j) := by
  have hD : ∀ k, 1 ≤ k → k < 6 → y_mI m 92 k = D k ∧ -24 ≤ D k ∧ D k ≤ 24 := fun k a b => ⟨(h2.2.2.2 k a b).1, (h2.2.2.2 k a b).2.1, (h2.2.2.2 k a b).2.2.1⟩
  have hb : ∀ k, 1 ≤ k → k < 6 → -24000000000000000 ≤ D k * (if pull then y_mJ m 72 k else y_mJ m 71 k) ∧ D k * (if pull then y_mJ m 72 k else y_mJ m 71 k) ≤ 24000000000000000 := by
    intro k a b
    have x := hD k a b
    have y := h3 k a b
    exact q_bnd (b := 24) (q := 1000000000000000) x.2.1 x.2.2 (by split <;> omega) (by split <;> omega) (by decide)
  have hS : -120000000000000000 ≤ q_S (fun k => D k * (if pull then y_mJ m 72 k else y_mJ m 71 k)) 1 5 ∧ q_S (fun k => D k * (if pull then y_mJ m 72 k else y_mJ m 71 k)) 1 5 ≤ 120000000000000000 := by
    rw [q_S_15]
    have b1 := hb 1 (by decide) (by decide)
    have b2 := hb 2 (by decide) (by decide)
    have b3 := hb 3 (by decide) (by decide)
    have b4 := hb 4 (by decide) (by decide)
    have b5 := hb 5 (by decide) (by decide)
    omega
  have h0 := h2.1
  have h01 := h2.2.1
  have h02 := h2.2.2.1
  have l1 := l_217 (sp := sp) (ph := ph) (d := d + 1) (pull := pull) hD 5 1 (D 0 * 1000000000000) (by omega) (by omega)
  have l1' : y_R sp ph (d + 1) 217 15 [some (y_bo 11 0 49), some (y_bi (n_b pull)), some (y_bl (D 0 * 1000000000000)), none, some (y_bi 1)] [] m = y_R sp ph (d + 1) 217 60 [some (y_bo 11 0 49), some (y_bi (n_b pull)), some (y_bl (q_sv m pull D)), none, none] [] m := l1
  have hv : -160000000000000000 ≤ q_sv m pull D ∧ q_sv m pull D ≤ 160000000000000000 := by unfold q_sv; omega
  simp (disch := omega) only [y_C_217, y_E_217_0, z_w_id, if_pos, if_neg, e_g, e_bI, e_bV, e_bL, e_II, e_II', e_IJ, e_JI, e_JJ, e_JJ', reduceIte, not_true_eq_false, not_false_eq_true, true_or, or_true, true_and, and_true, e_nb0, e_gT, h0]
  rw [l1', y_E_217_60, q_sg]
  generalize q_sv m pull D = v at *
  simp (disch := omega) only [n_lc_gt, n_lc_ge, y_E_217_76, n_lc_le, y_E_217_86, y_E_217_87]
  by_cases c1 : 1000 < v
  · rw [if_pos c1, if_pos c1, if_neg (by omega)]
    exact ⟨m, rfl, q_F_refl, fun _ _ => rfl⟩
  · rw [if_neg c1, if_neg c1]
    by_cases c2 : v < -1000
    · rw [if_neg (by omega), if_pos c2, if_pos (by omega)]
      exact ⟨m, rfl, q_F_refl, fun _ _ => rfl⟩
    · rw [if_pos (by omega), if_neg c2]
      simp only [y_E_217_88, t_215 h, e_bI, e_nb0]
      cases q_nt pull A P Fr D 5 1
      · obtain ⟨m', r1, r2, r3, r4, hb1, hb2, r5⟩ := t_216 (sp := sp) (ph := ph) (d := d) (pull := pull) h2
        simp only [reduceIte, y_E_217_98, r1, e_bV, Bool.false_eq_true]
        have dv := q_B10_div (f := y_mJ m' 93) (n := 1) 227 (fun i a b => r4 i a (by omega))
        have e1 : q_B10 (y_mJ m' 93) 1 = y_mJ m' 93 0 := by rw [q_B10, q_B10]; omega
        have e2 : q_B10 (y_mJ m' 93) (1 + 227) = q_B10 (y_mJ m' 93) 228 := rfl
        rw [e1, e2, r5] at dv
        have hp := n_pow_pos 227
        refine ⟨m', ?_, r2, r3⟩
        simp (disch := omega) only [n_lc_ge]
        by_cases c3 : 0 ≤ y_mJ m' 93 0
        · have : 0 ≤ y_mJ m' 93 0 * 10 ^ 227 := Int.mul_nonneg c3 (by omega)
          rw [if_pos c3, if_neg (by omega), y_E_217_118, y_E_217_119]
        · have : y_mJ m' 93 0 * 10 ^ 227 ≤ -1 * 10 ^ 227 := Int.mul_le_mul_of_nonneg_right (by omega) (by omega)
          rw [if_neg c3, if_pos (by omega), y_E_217_119]
      · exact ⟨m, by simp, q_F_refl, fun _ _ => rfl⟩
end Places
