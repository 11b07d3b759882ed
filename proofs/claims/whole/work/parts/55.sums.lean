/-! ===== the reference: sums of roots ===== -/
def q_r (A B k : Nat) : Nat := A * A + k * k * B * B
def q_P (A B k : Nat) : Nat := (q_sf 1000000 2 (q_r A B k) 1).2
def q_Fr (A B k : Nat) : Nat := (q_sf 1000000 2 (q_r A B k) 1).1
def q_fst (Fr : Nat → Nat) (k : Nat) : Nat → Nat → Bool → Bool
  | 0, _, b => b
  | n + 1, j, b => q_fst Fr k n (j + 1) (b && decide (Fr j ≠ Fr k))
def q_gs (pull : Bool) (P Fr : Nat → Nat) (D : Nat → Int) (k : Nat) : Nat → Nat → Int → Int → Int
  | 0, _, up, _ => up
  | n + 1, j, up, low => if Fr j = Fr k then q_gs pull P Fr D k n (j + 1) (if pull then up * P j + D j * low else up + D j * P j) (if pull then low * P j else low) else q_gs pull P Fr D k n (j + 1) up low
def q_g1 (pull : Bool) (A : Nat) (P Fr : Nat → Nat) (D : Nat → Int) : Nat → Nat → Int → Int → Int
  | 0, _, up, _ => up
  | n + 1, j, up, low => if Fr j = 1 then q_g1 pull A P Fr D n (j + 1) (if pull then up * P j + D j * A * low else up + D j * P j) (if pull then low * P j else low) else q_g1 pull A P Fr D n (j + 1) up low
def q_nt (pull : Bool) (A : Nat) (P Fr : Nat → Nat) (D : Nat → Int) : Nat → Nat → Bool
  | 0, _ => decide (q_g1 pull A P Fr D 5 1 (D 0) 1 = 0)
  | n + 1, k => if q_fst Fr k (k - 1) 1 (decide (Fr k ≠ 1)) = true ∧ q_gs pull P Fr D k (6 - k) k 0 1 ≠ 0 then false else q_nt pull A P Fr D n (k + 1)
theorem q_bnd {x p b q : Int} (h1 : -b ≤ x) (h2 : x ≤ b) (h3 : 0 ≤ p) (h4 : p ≤ q) (h5 : 0 ≤ b) : -(b * q) ≤ x * p ∧ x * p ≤ b * q := by
  have a1 : b * p ≤ b * q := Int.mul_le_mul_of_nonneg_left h4 h5
  have a2 : x * p ≤ b * p := Int.mul_le_mul_of_nonneg_right h2 h3
  have a3 : -b * p ≤ x * p := Int.mul_le_mul_of_nonneg_right h1 h3
  rw [Int.neg_mul] at a3
  omega
/-- what isNothing rests on -/
def q_nb (m : y_m) (A : Nat) (P Fr : Nat → Nat) (D : Nat → Int) : Prop := A ≤ 99 ∧ y_mI m 52 2 = A ∧ y_mI m 92 0 = D 0 ∧ -30000 ≤ D 0 ∧ D 0 ≤ 30000 ∧ ∀ k, 1 ≤ k → k < 6 → y_mI m 74 k = P k ∧ y_mI m 75 k = Fr k ∧ y_mI m 92 k = D k ∧ 1 ≤ P k ∧ P k ≤ 504 ∧ Fr k < 1000000 ∧ -24 ≤ D k ∧ D k ≤ 24
section Sums
variable {sp : Nat → Nat} {ph : Bool} {d : Nat}
theorem l_215a {A : Nat} {P Fr : Nat → Nat} {D : Nat → Int} {pull : Bool} {m : y_m} {k : Nat} (h : q_nb m A P Fr D) (hk : 1 ≤ k) (hk' : k < 6) : ∀ (n j : Nat) (b : Bool), j + n = k → 1 ≤ j → y_R sp ph d 215 26 [some (y_bo 11 0 49), some (y_bi (n_b pull)), some (y_bi (k : Int)), some (y_bi (n_b b)), some (y_bi (j : Int)), none, none, none, none] [] m = y_R sp ph d 215 64 [some (y_bo 11 0 49), some (y_bi (n_b pull)), some (y_bi (k : Int)), some (y_bi (n_b (q_fst Fr k n j b))), none, none, none, none, none] [] m := by
  intro n
  induction n with
  | zero =>
    intro j b hj h1
    rw [y_E_215_26]
    simp (disch := omega) only [z_w_id, if_pos, if_neg, e_g, e_bI, e_bV, e_bL, e_II, e_II', e_IJ, e_JI, e_JJ, e_JJ', reduceIte, not_true_eq_false, not_false_eq_true, true_or, or_true, true_and, and_true, e_nb0, e_gT]
    rfl
  | succ n ih =>
    intro j b hj h1
    obtain ⟨-, -, -, -, -, hh⟩ := h
    have a := hh j h1 (by omega)
    have c := hh k hk hk'
    rw [y_E_215_26]
    simp (disch := omega) only [z_w_id, if_pos, if_neg, e_g, e_bI, e_bV, e_bL, e_II, e_II', e_IJ, e_JI, e_JJ, e_JJ', reduceIte, not_true_eq_false, not_false_eq_true, true_or, or_true, true_and, and_true, e_nb0, e_gT, Int.toNat_natCast, a.2.1, c.2.1, y_E_215_56, y_E_215_57, e_nb0]
    rw [show (j : Int) + 1 = ((j + 1 : Nat) : Int) by omega, show (0 : Int) = n_b false from rfl, show (1 : Int) = n_b true from rfl, ih (j + 1) _ (by omega) (by omega), ih (j + 1) _ (by omega) (by omega), q_fst]
    by_cases q : Fr j = Fr k
    · rw [if_pos (show ((Fr j : Nat) : Int) = (Fr k : Int) by rw [q])]
      cases b <;> simp [q]
    · rw [if_neg (show ¬ ((Fr j : Nat) : Int) = (Fr k : Int) by omega)]
      cases b <;> simp [q]
theorem l_215b {A : Nat} {P Fr : Nat → Nat} {D : Nat → Int} {pull : Bool} {m : y_m} {k : Nat} (h : q_nb m A P Fr D) (hk : 1 ≤ k) (hk' : k < 6) : ∀ (n j : Nat) (up low t : Int), j + n = 6 → 1 ≤ j → 1 ≤ t → 0 ≤ low → low ≤ t → -(30000 * t) ≤ up → up ≤ 30000 * t → t * 600 ^ n ≤ 77760000000000 → -2332800000000000000 ≤ q_gs pull P Fr D k n j up low ∧ q_gs pull P Fr D k n j up low ≤ 2332800000000000000 ∧ y_R sp ph d 215 80 [some (y_bo 11 0 49), some (y_bi (n_b pull)), some (y_bi (k : Int)), none, some (y_bl up), none, some (y_bl low), none, some (y_bi (j : Int))] [] m = y_R sp ph d 215 184 [some (y_bo 11 0 49), some (y_bi (n_b pull)), some (y_bi (k : Int)), none, some (y_bl (q_gs pull P Fr D k n j up low)), none, none, none, none] [] m := by
  intro n
  induction n with
  | zero =>
    intro j up low t hj h1 ht hl hl' hu hu' hb
    rw [q_gs]
    have e : t * 600 ^ 0 = t := by simp
    rw [e] at hb
    refine ⟨by omega, by omega, ?_⟩
    rw [y_E_215_80]
    simp (disch := omega) only [z_w_id, if_pos, if_neg, e_g, e_bI, e_bV, e_bL, e_II, e_II', e_IJ, e_JI, e_JJ, e_JJ', reduceIte, not_true_eq_false, not_false_eq_true, true_or, or_true, true_and, and_true, e_nb0, e_gT]
  | succ n ih =>
    intro j up low t hj h1 ht hl hl' hu hu' hb
    obtain ⟨-, -, -, -, -, hh⟩ := h
    have a := hh j h1 (by omega)
    have c := hh k hk hk'
    obtain ⟨a1, a2, a3, a4, a5, a6, a7, a8⟩ := a
    have eb : t * 600 ^ (n + 1) = t * 600 * 600 ^ n := by rw [Int.pow_succ, Int.mul_comm (600 ^ n) 600, Int.mul_assoc]
    have pn : (1 : Int) ≤ 600 ^ n := Int.pow_pos (by decide)
    have hb2 : t * 600 ^ n ≤ 77760000000000 := by
      have : t * 600 ^ n * 1 ≤ t * 600 ^ n * 600 := Int.mul_le_mul_of_nonneg_left (by decide) (Int.mul_nonneg (by omega) (by omega))
      rw [eb] at hb
      rw [show t * 600 * 600 ^ n = t * 600 ^ n * 600 by rw [Int.mul_right_comm]] at hb
      omega
    have u1 := q_bnd hu hu' (show (0 : Int) ≤ P j by omega) (show (P j : Int) ≤ 504 by omega) (by omega)
    have u2 := q_bnd (x := D j) (p := low) (b := 24) (q := t) (by omega) (by omega) hl hl' (by decide)
    have u3 := q_bnd (x := D j) (p := P j) (b := 24) (q := 504) (by omega) (by omega) (by omega) (by omega) (by decide)
    have u4 := q_bnd (x := low) (p := P j) (b := t) (q := 504) (by omega) (by omega) (by omega) (by omega) (by omega)
    have u5 : 0 ≤ low * (P j : Int) := Int.mul_nonneg hl (by omega)
    rw [y_E_215_80, q_gs]
    by_cases q : Fr j = Fr k
    · cases pull with
      | true =>
        obtain ⟨i1, i2, i3⟩ := ih (j + 1) (up * P j + D j * low) (low * P j) (t * 600) (by omega) (by omega) (by omega) u5 (by omega) (by omega) (by omega) (by rw [← eb]; exact hb)
        rw [if_pos q]
        refine ⟨i1, i2, ?_⟩
        simp (disch := omega) only [z_w_id, if_pos, if_neg, e_g, e_bI, e_bV, e_bL, e_II, e_II', e_IJ, e_JI, e_JJ, e_JJ', reduceIte, not_true_eq_false, not_false_eq_true, true_or, or_true, true_and, and_true, e_nb0, e_gT, Int.toNat_natCast, a2, c.2.1, y_E_215_105, a1, a3, y_E_215_155, y_E_215_175, y_E_215_178, e_nb0]
        exact i3
      | false =>
        obtain ⟨i1, i2, i3⟩ := ih (j + 1) (up + D j * P j) low (t * 600) (by omega) (by omega) (by omega) hl (by omega) (by omega) (by omega) (by rw [← eb]; exact hb)
        rw [if_pos q]
        refine ⟨i1, i2, ?_⟩
        simp (disch := omega) only [z_w_id, if_pos, if_neg, e_g, e_bI, e_bV, e_bL, e_II, e_II', e_IJ, e_JI, e_JJ, e_JJ', reduceIte, not_true_eq_false, not_false_eq_true, true_or, or_true, true_and, and_true, e_nb0, e_gT, Int.toNat_natCast, a2, c.2.1, y_E_215_105, y_E_215_135, a1, a3, y_E_215_155, y_E_215_174, y_E_215_175, y_E_215_178, e_nb0, Int.mul_one]
        exact i3
    · obtain ⟨i1, i2, i3⟩ := ih (j + 1) up low t (by omega) (by omega) ht hl hl' hu hu' hb2
      rw [if_neg q]
      refine ⟨i1, i2, ?_⟩
      simp (disch := omega) only [z_w_id, if_pos, if_neg, e_g, e_bI, e_bV, e_bL, e_II, e_II', e_IJ, e_JI, e_JJ, e_JJ', reduceIte, not_true_eq_false, not_false_eq_true, true_or, or_true, true_and, and_true, e_nb0, e_gT, Int.toNat_natCast, a2, c.2.1, y_E_215_178]
      exact i3
theorem l_215c {A : Nat} {P Fr : Nat → Nat} {D : Nat → Int} {pull : Bool} {m : y_m} (h : q_nb m A P Fr D) : ∀ (n j : Nat) (up low t : Int), j + n = 6 → 1 ≤ j → 1 ≤ t → 0 ≤ low → low ≤ t → -(30000 * t) ≤ up → up ≤ 30000 * t → t * 600 ^ n ≤ 77760000000000 → -2332800000000000000 ≤ q_g1 pull A P Fr D n j up low ∧ q_g1 pull A P Fr D n j up low ≤ 2332800000000000000 ∧ y_R sp ph d 215 213 [some (y_bo 11 0 49), some (y_bi (n_b pull)), some (y_bl up), none, some (y_bl low), none, some (y_bi (j : Int)), none, none] [] m = y_R sp ph d 215 317 [none, none, some (y_bl (q_g1 pull A P Fr D n j up low)), none, none, none, none, none, none] [] m := by
  intro n
  induction n with
  | zero =>
    intro j up low t hj h1 ht hl hl' hu hu' hb
    rw [q_g1]
    have e : t * 600 ^ 0 = t := by simp
    rw [e] at hb
    refine ⟨by omega, by omega, ?_⟩
    rw [y_E_215_213]
    simp (disch := omega) only [z_w_id, if_pos, if_neg, e_g, e_bI, e_bV, e_bL, e_II, e_II', e_IJ, e_JI, e_JJ, e_JJ', reduceIte, not_true_eq_false, not_false_eq_true, true_or, or_true, true_and, and_true, e_nb0, e_gT]
  | succ n ih =>
    intro j up low t hj h1 ht hl hl' hu hu' hb
    obtain ⟨hA, hA2, -, -, -, hh⟩ := h
    obtain ⟨a1, a2, a3, a4, a5, a6, a7, a8⟩ := hh j h1 (by omega)
    have eb : t * 600 ^ (n + 1) = t * 600 * 600 ^ n := by rw [Int.pow_succ, Int.mul_comm (600 ^ n) 600, Int.mul_assoc]
    have pn : (1 : Int) ≤ 600 ^ n := Int.pow_pos (by decide)
    have hb2 : t * 600 ^ n ≤ 77760000000000 := by
      have : t * 600 ^ n * 1 ≤ t * 600 ^ n * 600 := Int.mul_le_mul_of_nonneg_left (by decide) (Int.mul_nonneg (by omega) (by omega))
      rw [eb] at hb
      rw [show t * 600 * 600 ^ n = t * 600 ^ n * 600 by rw [Int.mul_right_comm]] at hb
      omega
    have u1 := q_bnd hu hu' (show (0 : Int) ≤ P j by omega) (show (P j : Int) ≤ 504 by omega) (by omega)
    have u0 := q_bnd (x := D j) (p := A) (b := 24) (q := 99) (by omega) (by omega) (by omega) (by omega) (by decide)
    have u2 := q_bnd (x := D j * A) (p := low) (b := 2376) (q := t) (by omega) (by omega) hl hl' (by decide)
    have u3 := q_bnd (x := D j) (p := P j) (b := 24) (q := 504) (by omega) (by omega) (by omega) (by omega) (by decide)
    have u4 := q_bnd (x := low) (p := P j) (b := t) (q := 504) (by omega) (by omega) (by omega) (by omega) (by omega)
    have u5 : 0 ≤ low * (P j : Int) := Int.mul_nonneg hl (by omega)
    rw [y_E_215_213, q_g1]
    by_cases q : Fr j = 1
    · cases pull with
      | true =>
        obtain ⟨i1, i2, i3⟩ := ih (j + 1) (up * P j + D j * A * low) (low * P j) (t * 600) (by omega) (by omega) (by omega) u5 (by omega) (by omega) (by omega) (by rw [← eb]; exact hb)
        rw [if_pos q]
        refine ⟨i1, i2, ?_⟩
        simp (disch := omega) only [z_w_id, if_pos, if_neg, e_g, e_bI, e_bV, e_bL, e_II, e_II', e_IJ, e_JI, e_JJ, e_JJ', reduceIte, not_true_eq_false, not_false_eq_true, true_or, or_true, true_and, and_true, e_nb0, e_gT, Int.toNat_natCast, a2, y_E_215_233, a1, a3, hA2, y_E_215_289, y_E_215_308, y_E_215_311, e_nb0]
        exact i3
      | false =>
        obtain ⟨i1, i2, i3⟩ := ih (j + 1) (up + D j * P j) low (t * 600) (by omega) (by omega) (by omega) hl (by omega) (by omega) (by omega) (by rw [← eb]; exact hb)
        rw [if_pos q]
        refine ⟨i1, i2, ?_⟩
        simp (disch := omega) only [z_w_id, if_pos, if_neg, e_g, e_bI, e_bV, e_bL, e_II, e_II', e_IJ, e_JI, e_JJ, e_JJ', reduceIte, not_true_eq_false, not_false_eq_true, true_or, or_true, true_and, and_true, e_nb0, e_gT, Int.toNat_natCast, a2, y_E_215_233, y_E_215_270, a1, a3, y_E_215_289, y_E_215_307, y_E_215_308, y_E_215_311, e_nb0, Int.mul_one]
        exact i3
    · obtain ⟨i1, i2, i3⟩ := ih (j + 1) up low t (by omega) (by omega) ht hl hl' hu hu' hb2
      rw [if_neg q]
      refine ⟨i1, i2, ?_⟩
      simp (disch := omega) only [z_w_id, if_pos, if_neg, e_g, e_bI, e_bV, e_bL, e_II, e_II', e_IJ, e_JI, e_JJ, e_JJ', reduceIte, not_true_eq_false, not_false_eq_true, true_or, or_true, true_and, and_true, e_nb0, e_gT, Int.toNat_natCast, a2, y_E_215_311]
      exact i3
theorem l_215d {A : Nat} {P Fr : Nat → Nat} {D : Nat → Int} {pull : Bool} {m : y_m} (h : q_nb m A P Fr D) : ∀ (n k : Nat), k + n = 6 → 1 ≤ k → y_R sp ph d 215 2 [some (y_bo 11 0 49), some (y_bi (n_b pull)), some (y_bi (k : Int)), none, none, none, none, none, none] [] m = y_rI (n_b (q_nt pull A P Fr D n k)) m := by
  intro n
  induction n with
  | zero =>
    intro k hk h1
    have h' := h
    obtain ⟨hA, hA2, h3, h4, h5, hh⟩ := h'
    obtain ⟨i1, i2, i3⟩ := l_215c (sp := sp) (ph := ph) (d := d) (pull := pull) h 5 1 (D 0) 1 1 (by omega) (by omega) (by omega) (by omega) (by omega) (by omega) (by omega) (by decide)
    have i3' : y_R sp ph d 215 213 [some (y_bo 11 0 49), some (y_bi (n_b pull)), some (y_bl (D 0)), none, some (y_bl 1), none, some (y_bi 1), none, none] [] m = _ := i3
    rw [y_E_215_2]
    simp (disch := omega) only [z_w_id, if_pos, if_neg, e_g, e_bI, e_bV, e_bL, e_II, e_II', e_IJ, e_JI, e_JJ, e_JJ', reduceIte, not_true_eq_false, not_false_eq_true, true_or, or_true, true_and, and_true, e_nb0, e_gT, y_E_215_199, h3]
    rw [i3', y_E_215_317]
    simp (disch := omega) only [n_lc_eq]
    rw [q_nt]
    by_cases q : q_g1 pull A P Fr D 5 1 (D 0) 1 = 0
    · simp (disch := omega) only [q, z_w_id, if_pos, if_neg, e_g, e_bI, e_bV, e_bL, e_II, e_II', e_IJ, e_JI, e_JJ, e_JJ', reduceIte, not_true_eq_false, not_false_eq_true, true_or, or_true, true_and, and_true, e_nb0, e_gT, y_E_215_328]
      rfl
    · rw [if_pos q]
      simp (disch := omega) only [z_w_id, if_pos, if_neg, e_g, e_bI, e_bV, e_bL, e_II, e_II', e_IJ, e_JI, e_JJ, e_JJ', reduceIte, not_true_eq_false, not_false_eq_true, true_or, or_true, true_and, and_true, e_nb0, e_gT, y_E_215_327, y_E_215_328]
      rw [decide_eq_false q]; rfl
  | succ n ih =>
    intro k hk h1
    have h' := h
    obtain ⟨hA, hA2, h3, h4, h5, hh⟩ := h'
    obtain ⟨a1, a2, a3, a4, a5, a6, a7, a8⟩ := hh k h1 (by omega)
    obtain ⟨i1, i2, i3⟩ := l_215b (sp := sp) (ph := ph) (d := d) (pull := pull) h h1 (show k < 6 by omega) (6 - k) k 0 1 1 (by omega) (by omega) (by omega) (by omega) (by omega) (by omega) (by omega) (by
      have : (600 : Int) ^ (6 - k) ≤ 600 ^ 5 := by
        have e : ∀ z : Nat, (600 : Int) ^ z = ((600 ^ z : Nat) : Int) := fun z => by rw [Int.natCast_pow]; rfl
        rw [e, e]; exact Int.ofNat_le.mpr (Nat.pow_le_pow_right (by decide) (by omega))
      have e5 : (600 : Int) ^ 5 = 77760000000000 := by decide
      omega)
    have j2 := l_215a (sp := sp) (ph := ph) (d := d) (pull := pull) h h1 (show k < 6 by omega) (k - 1) 1 (decide (Fr k ≠ 1)) (by omega) (by omega)
    have j2' : y_R sp ph d 215 26 [some (y_bo 11 0 49), some (y_bi (n_b pull)), some (y_bi (k : Int)), some (y_bi (n_b (decide (Fr k ≠ 1)))), some (y_bi 1), none, none, none, none] [] m = _ := j2
    have e22 : (if ((Fr k : Nat) : Int) = 1 then y_R sp ph d 215 26 [some (y_bo 11 0 49), some (y_bi (n_b pull)), some (y_bi (k : Int)), some (y_bi 0), some (y_bi 1), none, none, none, none] [] m else y_R sp ph d 215 26 [some (y_bo 11 0 49), some (y_bi (n_b pull)), some (y_bi (k : Int)), some (y_bi 1), some (y_bi 1), none, none, none, none] [] m) = y_R sp ph d 215 26 [some (y_bo 11 0 49), some (y_bi (n_b pull)), some (y_bi (k : Int)), some (y_bi (n_b (decide (Fr k ≠ 1)))), some (y_bi 1), none, none, none, none] [] m := by
      by_cases q : Fr k = 1
      · rw [if_pos (by omega), decide_eq_false (by omega)]; rfl
      · rw [if_neg (by omega), decide_eq_true (by omega)]; rfl
    have hn : y_R sp ph d 215 193 [some (y_bo 11 0 49), some (y_bi (n_b pull)), some (y_bi (k : Int)), none, none, none, none, none, none] [] m = y_rI (n_b (q_nt pull A P Fr D n (k + 1))) m := by
      rw [y_E_215_193, show (k : Int) + 1 = ((k + 1 : Nat) : Int) by omega]
      exact ih (k + 1) (by omega) (by omega)
    rw [y_E_215_2]
    simp (disch := omega) only [z_w_id, if_pos, if_neg, e_g, e_bI, e_bV, e_bL, e_II, e_II', e_IJ, e_JI, e_JJ, e_JJ', reduceIte, not_true_eq_false, not_false_eq_true, true_or, or_true, true_and, and_true, e_nb0, e_gT, Int.toNat_natCast, a2, y_E_215_21, y_E_215_22]
    rw [e22, j2', y_E_215_64, hn, y_E_215_71, i3, y_E_215_184, hn, q_nt]
    simp (disch := omega) only [n_lc_eq, e_nb0]
    cases q_fst Fr k (k - 1) 1 (decide (Fr k ≠ 1))
    · rw [if_neg (by decide), if_neg (by simp)]
    · rw [if_pos (by decide)]
      by_cases q : q_gs pull P Fr D k (6 - k) k 0 1 = 0
      · rw [if_pos q, if_neg (by simp [q])]
      · rw [if_neg q, if_pos ⟨rfl, q⟩]; rfl
theorem t_215 {A : Nat} {P Fr : Nat → Nat} {D : Nat → Int} {pull : Bool} {m : y_m} (h : q_nb m A P Fr D) : y_V sp ph (d + 1) 215 [y_bo 11 0 49, y_bi (n_b pull)] m = y_rI (n_b (q_nt pull A P Fr D 5 1)) m := by
  simp only [y_C_215, y_E_215_0]
  exact l_215d h 5 1 (by omega) (by omega)
end Sums
