/-! ===== the reference: the digits of a root ===== -/
/-- the number that a row of digits spells, the highest digit first -/
def q_B10 (f : Nat → Int) : Nat → Int
  | 0 => 0
  | k + 1 => 10 * q_B10 f k + f k
theorem q_B10_congr {f g : Nat → Int} : ∀ {n : Nat}, (∀ i, i < n → f i = g i) → q_B10 f n = q_B10 g n
  | 0, _ => rfl
  | n + 1, h => by rw [q_B10, q_B10, q_B10_congr (fun i hi => h i (by omega)), h n (by omega)]
theorem q_B10_cons {f : Nat → Int} : ∀ (n : Nat), q_B10 f (n + 1) = f 0 * 10 ^ n + q_B10 (fun i => f (i + 1)) n
  | 0 => by simp [q_B10]
  | n + 1 => by rw [q_B10, q_B10_cons n, q_B10, Int.pow_succ]; grind
theorem q_B10_rev {f : Nat → Int} : ∀ (n : Nat), q_L10 (fun i => f (n - 1 - i)) n = q_B10 f n
  | 0 => rfl
  | n + 1 => by
    rw [q_L10, q_B10_cons, ← q_B10_rev n, show n + 1 - 1 - n = 0 by omega, q_L10_congr (g := fun i => f (n - 1 - i + 1)) (fun i hi => by
      show f (n + 1 - 1 - i) = f (n - 1 - i + 1)
      rw [show n + 1 - 1 - i = n - 1 - i + 1 by omega])]
    omega
section Root
variable {sp : Nat → Nat} {ph : Bool} {d : Nat}
theorem l_203a {a : Nat} {x y : Int} : ∀ (k i : Nat) (m : y_m), i + k = 476 → ∃ m', y_R sp ph d 203 10 [some (y_bo 11 0 49), some (y_bi x), some (y_bi y), some (y_bo 100 228 a), some (y_bi (476 : Int)), some (y_bi (i : Int)), none, none, none, none] [] m = y_R sp ph d 203 39 [some (y_bo 11 0 49), some (y_bi x), some (y_bi y), some (y_bo 100 228 a), none, none, none, none, none, none] [] m' ∧ q_F (fun x _ => x = 90 ∨ x = 91) m m' ∧ (∀ j, i ≤ j → j < 476 → y_mI m' 90 j = 0 ∧ y_mI m' 91 j = 0) ∧ ∀ j, j < i → y_mI m' 90 j = y_mI m 90 j ∧ y_mI m' 91 j = y_mI m 91 j := by
  intro k
  induction k with
  | zero =>
    intro i m h
    refine ⟨m, ?_, q_F_refl, fun j h1 h2 => absurd h2 (by omega), fun j _ => ⟨rfl, rfl⟩⟩
    rw [y_E_203_10]
    simp (disch := omega) only [z_w_id, if_pos, if_neg, e_g, e_bI, e_bV, e_bL, e_II, e_II', e_IJ, e_JI, e_JJ, e_JJ', reduceIte, not_true_eq_false, not_false_eq_true, true_or, or_true, true_and, and_true, e_nb0, e_gT]
  | succ k ih =>
    intro i m h
    obtain ⟨m', h1, h2, h3, h4⟩ := ih (i + 1) (y_sI (y_sI m 90 i 0) 91 i 0) (by omega)
    refine ⟨m', ?_, q_F_trans (q_F_trans (q_F_sI (Or.inl rfl)) (q_F_sI (Or.inr rfl))) h2, fun j h5 h6 => ?_, fun j h5 => ?_⟩
    · rw [y_E_203_10]
      simp (disch := omega) only [z_w_id, if_pos, if_neg, e_g, e_bI, e_bV, e_bL, e_II, e_II', e_IJ, e_JI, e_JJ, e_JJ', reduceIte, not_true_eq_false, not_false_eq_true, true_or, or_true, true_and, and_true, e_nb0, e_gT, Int.toNat_natCast]
      exact h1
    · by_cases c : j = i
      · subst c
        have := h4 j (by omega)
        rw [this.1, this.2]
        simp (disch := omega) only [z_w_id, if_pos, if_neg, e_g, e_bI, e_bV, e_bL, e_II, e_II', e_IJ, e_JI, e_JJ, e_JJ', reduceIte, not_true_eq_false, not_false_eq_true, true_or, or_true, true_and, and_true, e_nb0, e_gT]
      · exact h3 j (by omega) h6
    · have := h4 j (by omega)
      rw [this.1, this.2]
      simp (disch := omega) only [z_w_id, if_pos, if_neg, e_g, e_bI, e_bV, e_bL, e_II, e_II', e_IJ, e_JI, e_JJ, e_JJ', reduceIte, not_true_eq_false, not_false_eq_true, true_or, or_true, true_and, and_true, e_nb0, e_gT]
/-- the first eight digits of two numbers -/
theorem l_203b {a : Nat} {x7 : Int} {X Y : Int} (hX : 0 ≤ X) (hX' : X < 100000000) (hY : 0 ≤ Y) (hY' : Y < 100000000) : ∀ (k i : Nat) (x y : Int) (m : y_m), i + k = 8 → 0 ≤ x → x < 100000000 → 0 ≤ y → y < 100000000 → q_dig (y_mI m 90) 476 → q_dig (y_mI m 91) 476 → (∀ j, i ≤ j → j < 476 → y_mI m 90 j = 0 ∧ y_mI m 91 j = 0) → q_L10 (y_mI m 90) i + x * 10 ^ i = X → q_L10 (y_mI m 91) i + y * 10 ^ i = Y →
    ∃ m', y_R sp ph d 203 54 [some (y_bo 11 0 49), none, none, some (y_bo 100 228 a), none, some (y_bi x), some (y_bi y), some (y_bi x7), some (y_bi (i : Int)), none] [] m = y_R sp ph d 203 105 [some (y_bo 11 0 49), none, none, some (y_bo 100 228 a), none, none, none, some (y_bi x7), none, none] [] m' ∧ q_F (fun x _ => x = 90 ∨ x = 91) m m' ∧ q_N m' 90 476 X ∧ q_N m' 91 476 Y := by
  intro k
  induction k with
  | zero =>
    intro i x y m h hx hx' hy hy' d1 d2 hz v1 v2
    have : i = 8 := by omega
    subst this
    have b1 := q_L10_lt (f := y_mI m 90) (n := 8) (fun j hj => d1 j (by omega))
    have b2 := q_L10_lt (f := y_mI m 91) (n := 8) (fun j hj => d2 j (by omega))
    refine ⟨m, ?_, q_F_refl, ⟨d1, ?_⟩, ⟨d2, ?_⟩⟩
    · rw [y_E_203_54]
      simp (disch := omega) only [z_w_id, if_pos, if_neg, e_g, e_bI, e_bV, e_bL, e_II, e_II', e_IJ, e_JI, e_JJ, e_JJ', reduceIte, not_true_eq_false, not_false_eq_true, true_or, or_true, true_and, and_true, e_nb0, e_gT]
    · rw [q_L10_tail (k := 8) (by decide) (fun j h1 h2 => (hz j h1 h2).1)]; omega
    · rw [q_L10_tail (k := 8) (by decide) (fun j h1 h2 => (hz j h1 h2).2)]; omega
  | succ k ih =>
    intro i x y m h hx hx' hy hy' d1 d2 hz v1 v2
    have e : ∀ z : Int, z % 10 * 10 ^ i + z / 10 * 10 ^ (i + 1) = z * 10 ^ i := by
      intro z
      have : z = z / 10 * 10 + z % 10 := by omega
      have e2 : z / 10 * 10 ^ (i + 1) = z / 10 * 10 * 10 ^ i := by rw [Int.pow_succ, Int.mul_comm (10 ^ i) 10, Int.mul_assoc]
      rw [e2, ← Int.add_mul, Int.add_comm, ← this]
    obtain ⟨m', h1, h2, h3⟩ := ih (i + 1) (x / 10) (y / 10) (y_sI (y_sI m 90 i (x % 10)) 91 i (y % 10)) (by omega) (by omega) (by omega) (by omega) (by omega) (fun j hj => by
      rw [e_II' (by omega)]
      by_cases c : j = i
      · subst c; rw [e_II]; omega
      · rw [e_II' (by omega)]; exact d1 j hj) (fun j hj => by
      by_cases c : j = i
      · subst c; rw [e_II]; omega
      · rw [e_II' (by omega), e_II' (by omega)]; exact d2 j hj) (fun j h5 h6 => by
      have := hz j (by omega) h6
      simp (disch := omega) only [z_w_id, if_pos, if_neg, e_g, e_bI, e_bV, e_bL, e_II, e_II', e_IJ, e_JI, e_JJ, e_JJ', reduceIte, not_true_eq_false, not_false_eq_true, true_or, or_true, true_and, and_true, e_nb0, e_gT]; exact this) (by
      rw [q_L10, q_L10_congr (g := y_mI m 90) (fun j hj => by simp (disch := omega) only [z_w_id, if_pos, if_neg, e_g, e_bI, e_bV, e_bL, e_II, e_II', e_IJ, e_JI, e_JJ, e_JJ', reduceIte, not_true_eq_false, not_false_eq_true, true_or, or_true, true_and, and_true, e_nb0, e_gT])]
      simp (disch := omega) only [z_w_id, if_pos, if_neg, e_g, e_bI, e_bV, e_bL, e_II, e_II', e_IJ, e_JI, e_JJ, e_JJ', reduceIte, not_true_eq_false, not_false_eq_true, true_or, or_true, true_and, and_true, e_nb0, e_gT]
      have := e x
      omega) (by
      rw [q_L10, q_L10_congr (g := y_mI m 91) (fun j hj => by simp (disch := omega) only [z_w_id, if_pos, if_neg, e_g, e_bI, e_bV, e_bL, e_II, e_II', e_IJ, e_JI, e_JJ, e_JJ', reduceIte, not_true_eq_false, not_false_eq_true, true_or, or_true, true_and, and_true, e_nb0, e_gT])]
      simp (disch := omega) only [z_w_id, if_pos, if_neg, e_g, e_bI, e_bV, e_bL, e_II, e_II', e_IJ, e_JI, e_JJ, e_JJ', reduceIte, not_true_eq_false, not_false_eq_true, true_or, or_true, true_and, and_true, e_nb0, e_gT]
      have := e y
      omega)
    refine ⟨m', ?_, q_F_trans (q_F_trans (q_F_sI (Or.inl rfl)) (q_F_sI (Or.inr rfl))) h2, h3⟩
    rw [y_E_203_54]
    simp (disch := omega) only [z_w_id, if_pos, if_neg, e_g, e_bI, e_bV, e_bL, e_II, e_II', e_IJ, e_JI, e_JJ, e_JJ', reduceIte, not_true_eq_false, not_false_eq_true, true_or, or_true, true_and, and_true, e_nb0, e_gT, Int.toNat_natCast, n_idiv, n_irem]
    exact h1
/-- one digit: the greatest Q of 10 R to 10 R + 9 whose square is no more than Y -/
theorem l_203c {a dd : Nat} {R Y : Int} (h8 : 8 ≤ dd) (h228 : dd < 228) (hR : 0 ≤ R) (hY : Y < (10 * R + 10) * (10 * R + 10)) (hB : 400 * R + 1000 < 10 ^ (dd + 2)) : ∀ (n : Nat) (Q : Int) (m : y_m), Q + n = 10 * R + 10 → 10 * R ≤ Q → Q * Q ≤ Y → Y - Q * Q ≤ 200 * R + 200 → q_N m 90 476 (Y - Q * Q) → q_N m 91 476 (2 * Q + 1) →
    ∃ m' Q', y_R sp ph (d + 1) 203 154 [some (y_bo 11 0 49), none, none, some (y_bo 100 228 a), none, none, none, some (y_bi ((dd : Int) + 1)), some (y_bi (dd : Int)), some (y_bi (Q - 10 * R))] [] m = y_R sp ph (d + 1) 203 205 [some (y_bo 11 0 49), none, none, some (y_bo 100 228 a), none, none, none, some (y_bi ((dd : Int) + 1)), some (y_bi (dd : Int)), some (y_bi (Q' - 10 * R))] [] m' ∧ q_F (fun x _ => x = 90 ∨ x = 91) m m' ∧ q_N m' 90 476 (Y - Q' * Q') ∧ q_N m' 91 476 (2 * Q' + 1) ∧ Q' * Q' ≤ Y ∧ Y < (Q' + 1) * (Q' + 1) ∧ 10 * R ≤ Q' ∧ Q' ≤ 10 * R + 9 := by
  intro n
  induction n with
  | zero =>
    intro Q m h h1 h2
    have : Q = 10 * R + 10 := by omega
    subst this
    omega
  | succ n ih =>
    intro Q m h h1 h2 hsm n1 n2
    have eq1 : (Q + 1) * (Q + 1) = Q * Q + 2 * Q + 1 := by grind
    have hp : (10 : Int) ^ (dd + 2) ≤ 10 ^ (dd + 3 + 1) := n_pow_le (by omega)
    have hu : ((dd : Int) + 1 + 2) = ((dd + 3 : Nat) : Int) := by omega
    have hless := s_205 (sp := sp) (ph := ph) (d := d) (u := dd + 3) (by omega) n1 n2 (by omega) (by omega)
    by_cases c : Y - Q * Q < 2 * Q + 1
    · refine ⟨m, Q, ?_, q_F_refl, n1, n2, h2, by omega, h1, by omega⟩
      rw [y_E_203_154]
      rw [hu, hless]
      simp (disch := omega) only [z_w_id, if_pos, if_neg, e_g, e_bI, e_bV, e_bL, e_II, e_II', e_IJ, e_JI, e_JJ, e_JJ', reduceIte, not_true_eq_false, not_false_eq_true, true_or, or_true, true_and, and_true, e_nb0, e_gT, decide_eq_true c]
      rfl
    · obtain ⟨m1, r1, r2, r3⟩ := s_206 (sp := sp) (ph := ph) (d := d) (a := 90) (b := 91) (u := dd + 3) (by decide) (by omega) n1 n2 (by omega) (by omega)
      have n2' : q_N m1 91 476 (2 * Q + 1) := by
        have e : y_mI m1 91 = y_mI m 91 := funext fun k => q_F_I r2 91 k (by decide)
        unfold q_N; rw [e]; exact n2
      obtain ⟨m2, t1, t2, t3⟩ := s_207 (sp := sp) (ph := ph) (d := d) (a := 91) (n := 2) (u := dd + 3) (by omega) n2' (by decide) (by decide) (by omega) (by omega) (by omega)
      have n1' : q_N m2 90 476 (Y - (Q + 1) * (Q + 1)) := by
        have e : y_mI m2 90 = y_mI m1 90 := funext fun k => q_F_I t2 90 k (by decide)
        have e2 : Y - (Q + 1) * (Q + 1) = Y - Q * Q - (2 * Q + 1) := by omega
        unfold q_N; rw [e, e2]; exact r3
      obtain ⟨m3, Q', g1, g2, g3⟩ := ih (Q + 1) m2 (by omega) (by omega) (by omega) (by omega) n1' (by rw [show 2 * (Q + 1) + 1 = 2 * Q + 1 + 2 by omega]; exact t3)
      refine ⟨m3, Q', ?_, q_F_trans (q_F_trans (q_F_mono r2 (fun a k h => Or.inl h)) (q_F_mono t2 (fun a k h => Or.inr h))) g2, g3⟩
      rw [y_E_203_154]
      rw [hu, hless]
      simp (disch := omega) only [z_w_id, if_pos, if_neg, e_g, e_bI, e_bV, e_bL, e_II, e_II', e_IJ, e_JI, e_JJ, e_JJ', reduceIte, not_true_eq_false, not_false_eq_true, true_or, or_true, true_and, and_true, e_nb0, e_gT, decide_eq_false c, r1, t1]
      rw [show Q - 10 * R + 1 = Q + 1 - 10 * R by omega]
      exact g1
theorem l_203d {a : Nat} {r : Nat} (ha : a < 90) (hr : r < 1000000) : ∀ (k dd : Nat) (R : Int) (m : y_m), dd + k = 228 → 8 ≤ dd → 0 ≤ R → R * R ≤ r * 100 ^ (dd - 8) → (r : Int) * 100 ^ (dd - 8) < (R + 1) * (R + 1) → R + 1 ≤ 1000 * 10 ^ (dd - 8) → q_N m 90 476 (r * 100 ^ (dd - 8) - R * R) → q_N m 91 476 (2 * R) → q_dig (y_mI m a) dd → q_B10 (y_mI m a) dd = R →
    ∃ (m' : y_m) (F : Int), y_R sp ph (d + 1) 203 109 [some (y_bo 11 0 49), none, none, some (y_bo 100 228 a), none, none, none, some (y_bi (dd : Int)), some (y_bi (dd : Int)), none] [] m = y_rV m' ∧ q_F (fun x _ => x = 90 ∨ x = 91 ∨ x = a) m m' ∧ 0 ≤ F ∧ F * F ≤ r * 100 ^ 220 ∧ (r : Int) * 100 ^ 220 < (F + 1) * (F + 1) ∧ q_dig (y_mI m' a) 228 ∧ q_B10 (y_mI m' a) 228 = F := by
  intro k
  induction k with
  | zero =>
    intro dd R m h h8 hR h1 h2 h3 n1 n2 hd hv
    have : dd = 228 := by omega
    subst this
    refine ⟨m, R, ?_, q_F_refl, hR, h1, h2, hd, hv⟩
    rw [y_E_203_109]
    simp (disch := omega) only [z_w_id, if_pos, if_neg, e_g, e_bI, e_bV, e_bL, e_II, e_II', e_IJ, e_JI, e_JJ, e_JJ', reduceIte, not_true_eq_false, not_false_eq_true, true_or, or_true, true_and, and_true, e_nb0, e_gT, y_E_203_229]
  | succ k ih =>
    intro dd R m h h8 hR h1 h2 h3 n1 n2 hd hv
    have hp3 : (1000 : Int) * 10 ^ (dd - 8) = 10 ^ (dd - 5) := by
      rw [show dd - 5 = dd - 8 + 3 by omega, Int.pow_add, Int.mul_comm]; rfl
    have hp2 : (10 : Int) ^ (dd + 2) = 10000000 * 10 ^ (dd - 5) := by
      rw [show dd + 2 = dd - 5 + 7 by omega, Int.pow_add, Int.mul_comm]; rfl
    have hp1 : (10 : Int) ^ (dd + 1) = 1000000 * 10 ^ (dd - 5) := by
      rw [show dd + 1 = dd - 5 + 6 by omega, Int.pow_add, Int.mul_comm]; rfl
    have hpp := n_pow_pos (dd - 5)
    have hX : (r : Int) * 100 ^ (dd + 1 - 8) = 100 * (r * 100 ^ (dd - 8)) := by
      rw [show dd + 1 - 8 = dd - 8 + 1 by omega, Int.pow_succ, Int.mul_comm (100 ^ (dd - 8)) 100, Int.mul_left_comm]
    generalize (r : Int) * 100 ^ (dd - 8) = X at *
    generalize (10 : Int) ^ (dd - 5) = P at *
    have q1 : (R + 1) * (R + 1) = R * R + 2 * R + 1 := by grind
    have q2 : (10 * R + 10) * (10 * R + 10) = 100 * (R * R) + 200 * R + 100 := by grind
    have q3 : 10 * R * (10 * R) = 100 * (R * R) := by grind
    obtain ⟨m1, r1, r2, r3⟩ := s_204N (sp := sp) (ph := ph) (d := d) (a := 90) (by' := 2) (u := dd + 2) (by decide) (by decide) (by omega) (by omega) n1 (by rw [show dd + 2 + 1 - 2 = dd + 1 by omega, hp1]; omega)
    have n2' : q_N m1 91 476 (2 * R) := by
      have e : y_mI m1 91 = y_mI m 91 := funext fun k => q_F_I r2 91 k (by decide)
      unfold q_N; rw [e]; exact n2
    obtain ⟨m2, t1, t2, t3⟩ := s_204N (sp := sp) (ph := ph) (d := d) (a := 91) (by' := 1) (u := dd + 2) (by decide) (by decide) (by omega) (by omega) n2' (by rw [show dd + 2 + 1 - 1 = dd + 2 by omega, hp2]; omega)
    have f3 : q_F (fun x _ => x = 90 ∨ x = 91 ∨ x = a) m (y_sI m2 91 0 1) := q_F_trans (q_F_trans (q_F_mono r2 (fun a k h => Or.inl h)) (q_F_mono t2 (fun a k h => Or.inr (Or.inl h)))) (q_F_sI (Or.inr (Or.inl rfl)))
    have n3 : q_N (y_sI m2 91 0 1) 90 476 (100 * X - 10 * R * (10 * R)) := by
      have e : y_mI (y_sI m2 91 0 1) 90 = y_mI m1 90 := funext fun k => by rw [e_II' (by omega)]; exact q_F_I t2 90 k (by decide)
      have e2 : 100 * X - 10 * R * (10 * R) = 10 ^ 2 * (X - R * R) := by rw [q3]; omega
      unfold q_N; rw [e, e2]; exact r3
    have n4 : q_N (y_sI m2 91 0 1) 91 476 (2 * (10 * R) + 1) := by
      obtain ⟨g1, g2⟩ := t3
      have ev : q_L10 (y_mI m2 91) 476 = y_mI m2 91 0 + 10 * q_L10 (fun i => y_mI m2 91 (1 + i)) 475 := by
        have := q_L10_add (f := y_mI m2 91) 475 1
        rw [show 1 + 475 = 476 from rfl] at this
        rw [this, q_L10, q_L10]; omega
      have b0 := g1 0 (by decide)
      have z0 : y_mI m2 91 0 = 0 := by omega
      refine ⟨fun i hi => ?_, ?_⟩
      · by_cases c : i = 0
        · subst c; rw [e_II]; decide
        · rw [e_II' (by omega)]; exact g1 i hi
      · have := q_L10_add (f := y_mI (y_sI m2 91 0 1) 91) 475 1
        rw [show 1 + 475 = 476 from rfl] at this
        rw [this, q_L10, q_L10, e_II, q_L10_congr (f := fun i => y_mI (y_sI m2 91 0 1) 91 (1 + i)) (g := fun i => y_mI m2 91 (1 + i)) (fun i hi => e_II' (by omega))]
        omega
    obtain ⟨m4, Q, u1, u2, u3, u4, u5, u6, u7, u8⟩ := l_203c (sp := sp) (ph := ph) (d := d) (a := a) (dd := dd) (R := R) (Y := 100 * X) h8 (by omega) hR (by omega) (by rw [hp2]; omega) 10 (10 * R) (y_sI m2 91 0 1) (by omega) (by omega) (by omega) (by omega) n3 n4
    have hp4 : (10 : Int) ^ (dd + 2) ≤ 10 ^ (dd + 3 + 1) := n_pow_le (by omega)
    obtain ⟨m5, w1, w2, w3⟩ := s_207 (sp := sp) (ph := ph) (d := d) (a := 91) (n := -1) (u := dd + 3) (by omega) u4 (by decide) (by decide) (by omega) (by omega) (by omega)
    have fa : ∀ i, y_mI m5 a i = y_mI m a i ∨ a = 90 ∨ a = 91 := by
      intro i
      by_cases c : a = 90 ∨ a = 91
      · exact Or.inr c
      · left
        rw [q_F_I w2 a i (by omega), q_F_I u2 a i (by omega), e_II' (by omega), q_F_I t2 a i (by omega), q_F_I r2 a i (by omega)]
    have fa' : ∀ i, y_mI m5 a i = y_mI m a i := fun i => by
      rcases fa i with q | q
      · exact q
      · omega
    obtain ⟨m6, F, v1, v2, v3⟩ := ih (dd + 1) Q (y_sI m5 a dd (Q - 10 * R)) (by omega) (by omega) (by omega) (by rw [hX]; exact u5) (by rw [hX]; exact u6) (by
        rw [show dd + 1 - 8 = dd - 8 + 1 by omega, Int.pow_succ]; omega) (by
        have e : y_mI (y_sI m5 a dd (Q - 10 * R)) 90 = y_mI m4 90 := funext fun k => by rw [e_II' (by omega)]; exact q_F_I w2 90 k (by decide)
        unfold q_N; rw [e, hX]; exact u3) (by
        have e : y_mI (y_sI m5 a dd (Q - 10 * R)) 91 = y_mI m5 91 := funext fun k => by rw [e_II' (by omega)]
        unfold q_N; rw [e, show 2 * Q = 2 * Q + 1 + -1 by omega]; exact w3) (fun i hi => by
        by_cases c : i = dd
        · subst c; rw [e_II]; omega
        · rw [e_II' (by omega), fa']; exact hd i (by omega)) (by
        rw [q_B10, e_II, q_B10_congr (g := y_mI m a) (fun i hi => by rw [e_II' (by omega), fa']), hv]; omega)
    refine ⟨m6, F, ?_, q_F_trans (q_F_trans (q_F_trans (q_F_trans f3 (q_F_mono u2 (fun x k h => h.elim Or.inl (fun h => Or.inr (Or.inl h))))) (q_F_mono w2 (fun x k h => Or.inr (Or.inl h)))) (q_F_sI (Or.inr (Or.inr rfl)))) v2, v3⟩
    rw [y_E_203_109]
    have hu2 : ((dd : Int) + 2) = ((dd + 2 : Nat) : Int) := by omega
    have hu3 : ((dd : Int) + 1 + 2) = ((dd + 3 : Nat) : Int) := by omega
    have r1' : y_V sp ph (d + 1) 204 [y_bo 100 476 90, y_bi 2, y_bi ((dd : Int) + 2)] m = y_rV m1 := by rw [hu2]; exact r1
    have t1' : y_V sp ph (d + 1) 204 [y_bo 100 476 91, y_bi 1, y_bi ((dd : Int) + 2)] m1 = y_rV m2 := by rw [hu2]; exact t1
    have w1' : y_V sp ph (d + 1) 207 [y_bo 100 476 91, y_bi (-1), y_bi ((dd : Int) + 1 + 2)] m4 = y_rV m5 := by rw [hu3]; exact w1
    have u1' := u1
    rw [show 10 * R - 10 * R = (0 : Int) by omega] at u1'
    simp (disch := omega) only [z_w_id, if_pos, if_neg, e_g, e_bI, e_bV, e_bL, e_II, e_II', e_IJ, e_JI, e_JJ, e_JJ', reduceIte, not_true_eq_false, not_false_eq_true, true_or, or_true, true_and, and_true, e_nb0, e_gT, r1', t1']
    rw [u1', y_E_203_205]
    simp (disch := omega) only [z_w_id, if_pos, if_neg, e_g, e_bI, e_bV, e_bL, e_II, e_II', e_IJ, e_JI, e_JJ, e_JJ', reduceIte, not_true_eq_false, not_false_eq_true, true_or, or_true, true_and, and_true, e_nb0, e_gT, w1', Int.toNat_natCast]
    exact v1
end Root
