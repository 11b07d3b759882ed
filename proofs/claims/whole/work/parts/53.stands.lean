/-! ===== the reference: laysRoot, stands ===== -/
def q_rt (m : y_m) (k A r : Nat) : Prop := ∃ F : Int, 0 ≤ F ∧ F * F ≤ r * 100 ^ 220 ∧ (r : Int) * 100 ^ 220 < (F + 1) * (F + 1) ∧ y_mI m 73 k = r ∧ y_mI m 74 k = (q_sf 1000000 2 r 1).2 ∧ y_mI m 75 k = (q_sf 1000000 2 r 1).1 ∧ q_dig (y_mI m (77 + k)) 228 ∧ q_B10 (y_mI m (77 + k)) 228 = F ∧ q_dig (y_mI m (84 + k)) 228 ∧ q_B10 (y_mI m (84 + k)) 228 = A * F / r ∧ y_mJ m 71 k = q_B10 (y_mI m (77 + k)) 20 ∧ y_mJ m 72 k = q_B10 (y_mI m (84 + k)) 20
section Stands
variable {sp : Nat → Nat} {ph : Bool} {d : Nat}
theorem l_202a {k : Nat} {y : Int} (hk : k < 6) : ∀ (n x f p : Nat) (m : y_m), f + (1000 - x) < n → 2 ≤ x → x ≤ 1000 → 1 ≤ f → f < 1000000 → y_mI m 75 k = f → y_mI m 74 k = p →
    (∃ m', y_R sp ph d 202 55 [some (y_bo 11 0 49), some (y_bi (k : Int)), some (y_bi y), some (y_bi (x : Int)), none, none] [] m = y_R sp ph d 202 111 [some (y_bo 11 0 49), some (y_bi (k : Int)), some (y_bi y), none, none, none] [] m' ∧ q_F (fun a j => (a = 74 ∨ a = 75) ∧ j = k) m m' ∧ y_mI m' 75 k = (q_sf n x f p).1 ∧ y_mI m' 74 k = (q_sf n x f p).2) ∧
    (∃ m', y_R sp ph d 202 67 [some (y_bo 11 0 49), some (y_bi (k : Int)), some (y_bi y), some (y_bi (x : Int)), none, none] [] m = y_R sp ph d 202 111 [some (y_bo 11 0 49), some (y_bi (k : Int)), some (y_bi y), none, none, none] [] m' ∧ q_F (fun a j => (a = 74 ∨ a = 75) ∧ j = k) m m' ∧ y_mI m' 75 k = (q_sf n x f p).1 ∧ y_mI m' 74 k = (q_sf n x f p).2) := by
  intro n
  induction n with
  | zero => intro x f p m h; exact absurd h (Nat.not_lt_zero _)
  | succ n ih =>
    intro x f p m h hx hx' hf hf' e1 e2
    have hxx : x * x ≤ 1000 * 1000 := Nat.mul_le_mul hx' hx'
    have hxx0 : 0 < x * x := Nat.mul_pos (by omega) (by omega)
    have ec : (x : Int) * (x : Int) = ((x * x : Nat) : Int) := by rw [Int.natCast_mul]
    have hk0 : y_mI m 75 (k : Int).toNat = f := by rw [Int.toNat_natCast]; exact e1
    have hk1 : y_mI m 74 (k : Int).toNat = p := by rw [Int.toNat_natCast]; exact e2
    have s55 : x * x ≤ f → y_R sp ph d 202 55 [some (y_bo 11 0 49), some (y_bi (k : Int)), some (y_bi y), some (y_bi (x : Int)), none, none] [] m = y_R sp ph d 202 67 [some (y_bo 11 0 49), some (y_bi (k : Int)), some (y_bi y), some (y_bi (x : Int)), none, none] [] m := by
      intro hc
      rw [y_E_202_55]
      simp (disch := omega) only [hk0, ec, z_w_id, if_pos, if_neg, e_g, e_bI, e_bV, e_bL, e_II, e_II', e_IJ, e_JI, e_JJ, e_JJ', reduceIte, not_true_eq_false, not_false_eq_true, true_or, or_true, true_and, and_true, e_nb0, e_gT]
    have s55n : ∀ z : Nat, z ≤ 1000 → f < z * z → y_R sp ph d 202 55 [some (y_bo 11 0 49), some (y_bi (k : Int)), some (y_bi y), some (y_bi (z : Int)), none, none] [] m = y_R sp ph d 202 111 [some (y_bo 11 0 49), some (y_bi (k : Int)), some (y_bi y), none, none, none] [] m := by
      intro z hz hc
      have hzz : z * z ≤ 1000 * 1000 := Nat.mul_le_mul hz hz
      have ez : (z : Int) * (z : Int) = ((z * z : Nat) : Int) := by rw [Int.natCast_mul]
      rw [y_E_202_55]
      simp (disch := omega) only [hk0, ez, z_w_id, if_pos, if_neg, e_g, e_bI, e_bV, e_bL, e_II, e_II', e_IJ, e_JI, e_JJ, e_JJ', reduceIte, not_true_eq_false, not_false_eq_true, true_or, or_true, true_and, and_true, e_nb0, e_gT]
    have n0 : z_w ((x * x : Nat) : Int) ≠ 0 := by rw [z_w_id (by omega) (by omega)]; omega
    have emod : z_irem (f : Int) ((x * x : Nat) : Int) = ((f % (x * x) : Nat) : Int) := by
      rw [n_irem (by omega) (by omega) (by omega) (by omega), Int.natCast_emod]
    have ediv : z_idiv (f : Int) ((x * x : Nat) : Int) = ((f / (x * x) : Nat) : Int) := by
      rw [n_idiv (by omega) (by omega) (by omega) (by omega), Int.natCast_ediv]
    have hml : f % (x * x) < x * x := Nat.mod_lt _ hxx0
    have B : ∃ m', y_R sp ph d 202 67 [some (y_bo 11 0 49), some (y_bi (k : Int)), some (y_bi y), some (y_bi (x : Int)), none, none] [] m = y_R sp ph d 202 111 [some (y_bo 11 0 49), some (y_bi (k : Int)), some (y_bi y), none, none, none] [] m' ∧ q_F (fun a j => (a = 74 ∨ a = 75) ∧ j = k) m m' ∧ y_mI m' 75 k = (q_sf (n + 1) x f p).1 ∧ y_mI m' 74 k = (q_sf (n + 1) x f p).2 := by
      rw [y_E_202_67, hk0, ec, e_g (show (0 : Int) ≤ (k : Int) ∧ (k : Int) < (6 : Int) by omega), e_g n0, emod, q_sf]
      by_cases hd : f % (x * x) = 0
      · have hc : x * x ≤ f := Nat.le_of_dvd hf (Nat.dvd_of_mod_eq_zero hd)
        have hdiv : f / (x * x) < f := Nat.div_lt_self hf (by have := Nat.mul_le_mul hx hx; omega)
        obtain ⟨m', r1, r2, r3⟩ := (ih x (f / (x * x)) (p * x) (y_sI (y_sI m 75 k ((f / (x * x) : Nat) : Int)) 74 k ((p * x : Nat) : Int)) (by omega) hx hx' (Nat.div_pos hc hxx0) (by omega) (by rw [e_II' (by omega), e_II]) e_II).2
        rw [if_pos hc, if_pos hd]
        refine ⟨m', ?_, q_F_trans (q_F_trans (q_F_sI ⟨Or.inr rfl, rfl⟩) (q_F_sI ⟨Or.inl rfl, rfl⟩)) r2, r3⟩
        rw [hd, if_neg (by rw [z_w_id (by omega) (by omega)]; omega), ediv]
        rw [e_g (show (0 : Int) ≤ (k : Int) ∧ (k : Int) < (6 : Int) by omega), e_g n0, e_g (show (0 : Int) ≤ (k : Int) ∧ (k : Int) < (6 : Int) by omega), e_g (show (0 : Int) ≤ (k : Int) ∧ (k : Int) < (6 : Int) by omega), e_g (show (0 : Int) ≤ (k : Int) ∧ (k : Int) < (6 : Int) by omega), Int.toNat_natCast, e_II' (by omega), e2, ← Int.natCast_mul]
        exact r1
      · rw [if_pos (by rw [z_w_id (by omega) (by omega)]; omega), y_E_202_105, show (x : Int) + 1 = ((x + 1 : Nat) : Int) by omega]
        by_cases hc : x * x ≤ f
        · have hx1 : x < 1000 := by
            rcases Nat.lt_or_ge x 1000 with q | q
            · exact q
            · have := Nat.mul_le_mul q q; omega
          rw [if_pos hc, if_neg hd]
          exact (ih (x + 1) f p m (by omega) (by omega) (by omega) hf hf' e1 e2).1
        · rw [if_neg hc]
          refine ⟨m, ?_, q_F_refl, e1, e2⟩
          by_cases hx1 : x + 1 ≤ 1000
          · exact s55n (x + 1) hx1 (by have : (x + 1) * (x + 1) = x * x + 2 * x + 1 := by grind
                                       omega)
          · have hxe : x = 1000 := by omega
            subst hxe
            rw [y_E_202_55]
            simp (disch := omega) only [hk0, z_w_id, if_pos, if_neg, e_g, e_bI, e_bV, e_bL, e_II, e_II', e_IJ, e_JI, e_JJ, e_JJ', reduceIte, not_true_eq_false, not_false_eq_true, true_or, or_true, true_and, and_true, e_nb0, e_gT]
    refine ⟨?_, B⟩
    by_cases hc : x * x ≤ f
    · rw [s55 hc]; exact B
    · refine ⟨m, s55n x hx' (by omega), q_F_refl, ?_, ?_⟩
      · rw [q_sf, if_neg hc]; exact e1
      · rw [q_sf, if_neg hc]; exact e2
theorem l_202b {k r : Nat} {m : y_m} (hr : r < 1000000) : ∀ (n w : Nat), w + n = 1000 → w * w ≤ r → ∃ W : Nat, y_R sp ph d 202 113 [some (y_bo 11 0 49), some (y_bi (k : Int)), some (y_bi (r : Int)), some (y_bi (w : Int)), none, none] [] m = y_R sp ph d 202 130 [some (y_bo 11 0 49), some (y_bi (k : Int)), some (y_bi (r : Int)), some (y_bi (W : Int)), none, none] [] m ∧ W * W ≤ r ∧ r < (W + 1) * (W + 1) ∧ W + 1 ≤ 1000 := by
  intro n
  induction n with
  | zero =>
    intro w h h1
    have : w = 1000 := by omega
    subst this; omega
  | succ n ih =>
    intro w h h1
    have hw : (w + 1) * (w + 1) ≤ 1000 * 1000 := Nat.mul_le_mul (by omega) (by omega)
    have ec : ((w : Int) + 1) * ((w : Int) + 1) = (((w + 1) * (w + 1) : Nat) : Int) := by rw [Int.natCast_mul]; rfl
    by_cases c : r < (w + 1) * (w + 1)
    · refine ⟨w, ?_, h1, c, by omega⟩
      rw [y_E_202_113]
      simp (disch := omega) only [ec, z_w_id, if_pos, if_neg, e_g, e_bI, e_bV, e_bL, e_II, e_II', e_IJ, e_JI, e_JJ, e_JJ', reduceIte, not_true_eq_false, not_false_eq_true, true_or, or_true, true_and, and_true, e_nb0, e_gT]
    · obtain ⟨W, g1, g2⟩ := ih (w + 1) (by omega) (by omega)
      refine ⟨W, ?_, g2⟩
      rw [y_E_202_113]
      simp (disch := omega) only [ec, z_w_id, if_pos, if_neg, e_g, e_bI, e_bV, e_bL, e_II, e_II', e_IJ, e_JI, e_JJ, e_JJ', reduceIte, not_true_eq_false, not_false_eq_true, true_or, or_true, true_and, and_true, e_nb0, e_gT]
      exact g1
theorem l_202c {k a : Nat} {r w : Int} : ∀ (n i : Nat) (m : y_m), i + n = 228 → ∃ m', y_R sp ph d 202 141 [some (y_bo 11 0 49), some (y_bi (k : Int)), some (y_bi r), some (y_bi w), some (y_bo 100 228 a), some (y_bi (i : Int))] [] m = y_R sp ph d 202 161 [some (y_bo 11 0 49), some (y_bi (k : Int)), some (y_bi r), some (y_bi w), some (y_bo 100 228 a), none] [] m' ∧ q_F (fun x _ => x = a) m m' ∧ (∀ j, j < i → y_mI m' a j = y_mI m a j) ∧ ∀ j, i ≤ j → j < 228 → y_mI m' a j = 0 := by
  intro n
  induction n with
  | zero =>
    intro i m h
    refine ⟨m, ?_, q_F_refl, fun _ _ => rfl, fun j h1 h2 => absurd h2 (by omega)⟩
    rw [y_E_202_141]
    simp (disch := omega) only [z_w_id, if_pos, if_neg, e_g, e_bI, e_bV, e_bL, e_II, e_II', e_IJ, e_JI, e_JJ, e_JJ', reduceIte, not_true_eq_false, not_false_eq_true, true_or, or_true, true_and, and_true, e_nb0, e_gT]
  | succ n ih =>
    intro i m h
    obtain ⟨m', r1, r2, r3, r4⟩ := ih (i + 1) (y_sI m a i 0) (by omega)
    refine ⟨m', ?_, q_F_trans (q_F_sI rfl) r2, fun j hj => ?_, fun j h1 h2 => ?_⟩
    · rw [y_E_202_141]
      simp (disch := omega) only [z_w_id, if_pos, if_neg, e_g, e_bI, e_bV, e_bL, e_II, e_II', e_IJ, e_JI, e_JJ, e_JJ', reduceIte, not_true_eq_false, not_false_eq_true, true_or, or_true, true_and, and_true, e_nb0, e_gT, Int.toNat_natCast]
      exact r1
    · rw [r3 j (by omega), e_II' (by omega)]
    · by_cases c : j = i
      · subst c; rw [r3 j (by omega), e_II]
      · exact r4 j (by omega) h2
theorem l_202d {k a : Nat} {r : Int} (hk : k < 6) {f : Nat → Int} (hf : q_dig f 228) : ∀ (n i : Nat) (m : y_m), i + n = 20 → (∀ j, j < 228 → y_mI m a j = f j) → y_mJ m 71 k = q_B10 f i → ∃ m', y_R sp ph d 202 212 [some (y_bo 11 0 49), some (y_bi (k : Int)), some (y_bi r), none, some (y_bo 100 228 a), some (y_bi (i : Int))] [] m = y_R sp ph d 202 248 [some (y_bo 11 0 49), some (y_bi (k : Int)), some (y_bi r), none, some (y_bo 100 228 a), none] [] m' ∧ q_F (fun x j => x = 71 ∧ j = k) m m' ∧ (∀ x j, y_mI m' x j = y_mI m x j) ∧ y_mJ m' 71 k = q_B10 f 20 := by
  intro n
  induction n with
  | zero =>
    intro i m h hm hv
    have : i = 20 := by omega
    subst this
    refine ⟨m, ?_, q_F_refl, fun _ _ => rfl, hv⟩
    rw [y_E_202_212]
    simp (disch := omega) only [z_w_id, if_pos, if_neg, e_g, e_bI, e_bV, e_bL, e_II, e_II', e_IJ, e_JI, e_JJ, e_JJ', reduceIte, not_true_eq_false, not_false_eq_true, true_or, or_true, true_and, and_true, e_nb0, e_gT]
  | succ n ih =>
    intro i m h hm hv
    have f1 := hf i (by omega)
    obtain ⟨m', r1, r2, r3, r4⟩ := ih (i + 1) (y_sJ m 71 k (10 * q_B10 f i + f i)) (by omega) hm (by rw [e_JJ]; rfl)
    refine ⟨m', ?_, q_F_trans (q_F_sJ ⟨rfl, rfl⟩) r2, fun x j => r3 x j, r4⟩
    rw [y_E_202_212]
    have e1 : y_mI m a i = f i := hm i (by omega)
    simp (disch := omega) only [z_w_id, if_pos, if_neg, e_g, e_bI, e_bV, e_bL, e_II, e_II', e_IJ, e_JI, e_JJ, e_JJ', reduceIte, not_true_eq_false, not_false_eq_true, true_or, or_true, true_and, and_true, e_nb0, e_gT, Int.toNat_natCast, e1, hv]
    exact r1
theorem l_202e {k : Nat} (hk : k < 6) {f : Nat → Int} (hf : q_dig f 228) : ∀ (n i : Nat) (m : y_m), i + n = 20 → (∀ j, j < 228 → y_mI m (84 + k) j = f j) → y_mJ m 72 k = q_B10 f i → ∃ m', y_R sp ph d 202 276 [some (y_bo 11 0 49), some (y_bi (k : Int)), none, none, none, some (y_bi (i : Int))] [] m = y_rV m' ∧ q_F (fun x j => x = 72 ∧ j = k) m m' ∧ (∀ x j, y_mI m' x j = y_mI m x j) ∧ y_mJ m' 72 k = q_B10 f 20 := by
  intro n
  induction n with
  | zero =>
    intro i m h hm hv
    have : i = 20 := by omega
    subst this
    refine ⟨m, ?_, q_F_refl, fun _ _ => rfl, hv⟩
    rw [y_E_202_276]
    simp (disch := omega) only [z_w_id, if_pos, if_neg, e_g, e_bI, e_bV, e_bL, e_II, e_II', e_IJ, e_JI, e_JJ, e_JJ', reduceIte, not_true_eq_false, not_false_eq_true, true_or, or_true, true_and, and_true, e_nb0, e_gT, y_E_202_316]
  | succ n ih =>
    intro i m h hm hv
    have f1 := hf i (by omega)
    obtain ⟨m', r1, r2, r3, r4⟩ := ih (i + 1) (y_sJ m 72 k (10 * q_B10 f i + f i)) (by omega) hm (by rw [e_JJ]; rfl)
    refine ⟨m', ?_, q_F_trans (q_F_sJ ⟨rfl, rfl⟩) r2, fun x j => r3 x j, r4⟩
    rw [y_E_202_276]
    have e1 : y_mI m (84 + k) i = f i := hm i (by omega)
    simp (disch := omega) only [z_w_id, if_pos, if_neg, e_g, e_bI, e_bV, e_bL, e_II, e_II', e_IJ, e_JI, e_JJ, e_JJ', reduceIte, not_true_eq_false, not_false_eq_true, true_or, or_true, true_and, and_true, e_nb0, e_gT, Int.toNat_natCast, Nat.one_mul, e1, hv]
    exact r1
/-- what laysRoot writes -/
def q_ws (k : Nat) (a j : Nat) : Prop := ((a = 71 ∨ a = 72 ∨ a = 73 ∨ a = 74 ∨ a = 75) ∧ j = k) ∨ a = 77 + k ∨ a = 84 + k ∨ a = 90 ∨ a = 91
theorem t_202 {k A B : Nat} {m : y_m} (hk1 : 1 ≤ k) (hk : k < 6) (hA : y_mI m 52 2 = A) (hB : y_mI m 52 3 = B) (hA1 : 1 ≤ A) (hA' : A ≤ 99) (hB' : B ≤ 99) : ∃ m', y_V sp ph (d + 3) 202 [y_bo 11 0 49, y_bi (k : Int)] m = y_rV m' ∧ q_F (q_ws k) m m' ∧ q_rt m' k A (A * A + k * k * B * B) := by
  have hr3 : A * A + k * k * B * B ≤ 254826 := by
    have h1 : A * A ≤ 99 * 99 := Nat.mul_le_mul hA' hA'
    have h2 : k * k ≤ 5 * 5 := Nat.mul_le_mul (by omega) (by omega)
    have h3 : k * k * B ≤ 5 * 5 * 99 := Nat.mul_le_mul h2 hB'
    have h4 : k * k * B * B ≤ 5 * 5 * 99 * 99 := Nat.mul_le_mul h3 hB'
    omega
  have hr : A * A + k * k * B * B < 1000000 := by omega
  have hr0 : 0 < A * A + k * k * B * B := by have : 0 < A * A := Nat.mul_pos hA1 hA1
                                             omega
  have hAr : A * A ≤ A * A + k * k * B * B := Nat.le_add_right _ _
  have er : (A : Int) * (A : Int) + (k : Int) * (k : Int) * (B : Int) * (B : Int) = ((A * A + k * k * B * B : Nat) : Int) := by
    simp [Int.natCast_add, Int.natCast_mul]
  generalize A * A + k * k * B * B = r at *
  simp only [y_C_202, y_E_202_0, hA, hB, er, Int.toNat_natCast]
  simp (disch := omega) only [z_w_id, if_pos, if_neg, e_g, e_bI, e_bV, e_bL, e_II, e_II', e_IJ, e_JI, e_JJ, e_JJ', reduceIte, not_true_eq_false, not_false_eq_true, true_or, or_true, true_and, and_true, e_nb0, e_gT]
  obtain ⟨m1, a1, a2, a3, a4⟩ := (l_202a (sp := sp) (ph := ph) (d := d + 2) (y := (r : Int)) hk 1000000 2 r 1 (y_sI (y_sI (y_sI m 73 k r) 74 k 1) 75 k r) (by omega) (by omega) (by omega) (by omega) hr e_II (by rw [e_II' (by omega), e_II]; rfl)).1
  have a1' : y_R sp ph (d + 2) 202 55 [some (y_bo 11 0 49), some (y_bi (k : Int)), some (y_bi (r : Int)), some (y_bi 2), none, none] [] (y_sI (y_sI (y_sI m 73 k r) 74 k 1) 75 k r) = _ := a1
  obtain ⟨W, b1, b2, b3, b4⟩ := l_202b (sp := sp) (ph := ph) (d := d + 2) (k := k) (r := r) (m := m1) hr 1000 0 (by omega) (by omega)
  have b1' : y_R sp ph (d + 2) 202 113 [some (y_bo 11 0 49), some (y_bi (k : Int)), some (y_bi (r : Int)), some (y_bi 0), none, none] [] m1 = _ := b1
  rw [a1', y_E_202_111, b1', y_E_202_130]
  simp (disch := omega) only [z_w_id, if_pos, if_neg, e_g, e_bI, e_bV, e_bL, e_II, e_II', e_IJ, e_JI, e_JJ, e_JJ', reduceIte, not_true_eq_false, not_false_eq_true, true_or, or_true, true_and, and_true, e_nb0, e_gT, Int.toNat_natCast, Nat.one_mul]
  obtain ⟨m2, c1, c2, c3, c4⟩ := l_202c (sp := sp) (ph := ph) (d := d + 2) (k := k) (a := 77 + k) (r := r) (w := W) 228 0 m1 (by omega)
  have c1' : y_R sp ph (d + 2) 202 141 [some (y_bo 11 0 49), some (y_bi (k : Int)), some (y_bi (r : Int)), some (y_bi (W : Int)), some (y_bo 100 228 (77 + k)), some (y_bi 0)] [] m1 = _ := c1
  rw [c1', y_E_202_161]
  have eW : (W : Int) * (W : Int) = ((W * W : Nat) : Int) := by rw [Int.natCast_mul]
  have eW2 : ((W : Int) + 1) * ((W : Int) + 1) = (((W + 1) * (W + 1) : Nat) : Int) := by rw [Int.natCast_mul]; rfl
  simp (disch := omega) only [n_idiv, n_irem]
  have dg : ∀ j, j < 8 → y_mI (y_sI (y_sI (y_sI m2 (77 + k) 5 ((W : Int) / 100)) (77 + k) 6 ((W : Int) / 10 % 10)) (77 + k) 7 ((W : Int) % 10)) (77 + k) j = if j = 5 then (W : Int) / 100 else if j = 6 then (W : Int) / 10 % 10 else if j = 7 then (W : Int) % 10 else 0 := by
    intro j hj
    have z := c4 j (Nat.zero_le _) (by omega)
    by_cases q5 : j = 5
    · subst q5; simp (disch := omega) only [z_w_id, if_pos, if_neg, e_g, e_bI, e_bV, e_bL, e_II, e_II', e_IJ, e_JI, e_JJ, e_JJ', reduceIte, not_true_eq_false, not_false_eq_true, true_or, or_true, true_and, and_true, e_nb0, e_gT]
    · by_cases q6 : j = 6
      · subst q6; simp (disch := omega) only [z_w_id, if_pos, if_neg, e_g, e_bI, e_bV, e_bL, e_II, e_II', e_IJ, e_JI, e_JJ, e_JJ', reduceIte, not_true_eq_false, not_false_eq_true, true_or, or_true, true_and, and_true, e_nb0, e_gT]
      · by_cases q7 : j = 7
        · subst q7; simp (disch := omega) only [z_w_id, if_pos, if_neg, e_g, e_bI, e_bV, e_bL, e_II, e_II', e_IJ, e_JI, e_JJ, e_JJ', reduceIte, not_true_eq_false, not_false_eq_true, true_or, or_true, true_and, and_true, e_nb0, e_gT]
        · simp (disch := omega) only [z_w_id, if_pos, if_neg, e_g, e_bI, e_bV, e_bL, e_II, e_II', e_IJ, e_JI, e_JJ, e_JJ', reduceIte, not_true_eq_false, not_false_eq_true, true_or, or_true, true_and, and_true, e_nb0, e_gT]; exact z
  obtain ⟨m3, F, d1, d2, d3, d4, d5, d6, d7⟩ := s_203 (sp := sp) (ph := ph) (d := d) (a := 77 + k) (r := r) (R := W) (m := y_sI (y_sI (y_sI m2 (77 + k) 5 ((W : Int) / 100)) (77 + k) 6 ((W : Int) / 10 % 10)) (77 + k) 7 ((W : Int) % 10)) (by omega) hr (by omega) (by omega) (by rw [eW]; omega) (by rw [eW2]; omega) (fun j hj => by
      rw [dg j hj]; repeat' split
      all_goals omega) (by
      rw [q_B10, q_B10, q_B10, q_B10, q_B10, q_B10, q_B10, q_B10, q_B10, dg 0 (by decide), dg 1 (by decide), dg 2 (by decide), dg 3 (by decide), dg 4 (by decide), dg 5 (by decide), dg 6 (by decide), dg 7 (by decide)]
      simp only [reduceIte, show ¬ (0 : Nat) = 5 by decide, show ¬ (0 : Nat) = 6 by decide, show ¬ (0 : Nat) = 7 by decide, show ¬ (1 : Nat) = 5 by decide, show ¬ (1 : Nat) = 6 by decide, show ¬ (1 : Nat) = 7 by decide, show ¬ (2 : Nat) = 5 by decide, show ¬ (2 : Nat) = 6 by decide, show ¬ (2 : Nat) = 7 by decide, show ¬ (3 : Nat) = 5 by decide, show ¬ (3 : Nat) = 6 by decide, show ¬ (3 : Nat) = 7 by decide, show ¬ (4 : Nat) = 5 by decide, show ¬ (4 : Nat) = 6 by decide, show ¬ (4 : Nat) = 7 by decide, show ¬ (6 : Nat) = 5 by decide, show ¬ (7 : Nat) = 5 by decide, show ¬ (7 : Nat) = 6 by decide]
      omega)
  rw [d1, e_bV]
  simp (disch := omega) only [z_w_id, if_pos, if_neg, e_g, e_bI, e_bV, e_bL, e_II, e_II', e_IJ, e_JI, e_JJ, e_JJ', reduceIte, not_true_eq_false, not_false_eq_true, true_or, or_true, true_and, and_true, e_nb0, e_gT, Int.toNat_natCast]
  obtain ⟨m4, f1, f2, f3, f4⟩ := l_202d (sp := sp) (ph := ph) (d := d + 2) (k := k) (a := 77 + k) (r := r) hk d6 20 0 (y_sJ m3 71 k 0) (by omega) (fun j _ => rfl) (by rw [e_JJ]; rfl)
  have f1' : y_R sp ph (d + 2) 202 212 [some (y_bo 11 0 49), some (y_bi (k : Int)), some (y_bi (r : Int)), none, some (y_bo 100 228 (77 + k)), some (y_bi 0)] [] (y_sJ m3 71 k 0) = _ := f1
  rw [f1', y_E_202_248]
  simp (disch := omega) only [z_w_id, if_pos, if_neg, e_g, e_bI, e_bV, e_bL, e_II, e_II', e_IJ, e_JI, e_JJ, e_JJ', reduceIte, not_true_eq_false, not_false_eq_true, true_or, or_true, true_and, and_true, e_nb0, e_gT, Int.toNat_natCast, Nat.one_mul]
  have frA : y_mI m4 52 2 = A := by
    rw [f3]
    show y_mI m3 52 2 = A
    rw [q_F_I d2 52 2 (by omega)]
    simp (disch := omega) only [z_w_id, if_pos, if_neg, e_g, e_bI, e_bV, e_bL, e_II, e_II', e_IJ, e_JI, e_JJ, e_JJ', reduceIte, not_true_eq_false, not_false_eq_true, true_or, or_true, true_and, and_true, e_nb0, e_gT]
    rw [q_F_I c2 52 2 (by omega), q_F_I a2 52 2 (by omega)]
    simp (disch := omega) only [z_w_id, if_pos, if_neg, e_g, e_bI, e_bV, e_bL, e_II, e_II', e_IJ, e_JI, e_JJ, e_JJ', reduceIte, not_true_eq_false, not_false_eq_true, true_or, or_true, true_and, and_true, e_nb0, e_gT]
    exact hA
  rw [frA]
  have hFs : (A : Int) * F < 10 ^ 228 := by
    have q1 : F < 1000 * 10 ^ 220 := by
      rcases Int.lt_or_le F (1000 * 10 ^ 220) with q | q
      · exact q
      · have := Int.mul_le_mul q q (Int.mul_nonneg (by decide) (Int.le_of_lt (n_pow_pos _))) d3
        have e9 : (1000 : Int) * 10 ^ 220 * (1000 * 10 ^ 220) = 1000000 * 100 ^ 220 := by decide
        have e8 : (r : Int) * 100 ^ 220 ≤ 999999 * 100 ^ 220 := Int.mul_le_mul_of_nonneg_right (by omega) (Int.le_of_lt (Int.pow_pos (by decide)))
        have e7 : (999999 : Int) * 100 ^ 220 < 1000000 * 100 ^ 220 := by decide
        rw [e9] at this
        exact absurd (Int.lt_of_le_of_lt (Int.le_trans this d4) (Int.lt_of_le_of_lt e8 e7)) (Int.lt_irrefl _)
    have q2 : (A : Int) * F ≤ 99 * F := Int.mul_le_mul_of_nonneg_right (by omega) d3
    have q3 : (99 : Int) * F ≤ 99 * (1000 * 10 ^ 220) := Int.mul_le_mul_of_nonneg_left (Int.le_of_lt q1) (by decide)
    have q4 : (99 : Int) * (1000 * 10 ^ 220) < 10 ^ 228 := by decide
    exact Int.lt_of_le_of_lt (Int.le_trans q2 q3) q4
  have row4 : y_mI m4 (77 + k) = y_mI m3 (77 + k) := funext fun j => f3 _ _
  obtain ⟨m5, g1, g2, g3, g4⟩ := s_208 (sp := sp) (ph := ph) (d := d + 1) (a := 77 + k) (b := 84 + k) (A := A) (r := r) (m := m4) (F := F) (by omega) hA' (by omega) hr (by rw [row4]; exact d6) (by rw [row4]; exact d7) hFs
  rw [g1, e_bV]
  obtain ⟨m6, h1, h2, h3, h4⟩ := l_202e (sp := sp) (ph := ph) (d := d + 2) (k := k) hk g3 20 0 (y_sJ m5 72 k 0) (by omega) (fun j _ => rfl) (by rw [e_JJ]; rfl)
  have ch6 : ∀ x j, y_mI m6 x j = y_mI m5 x j := fun x j => h3 x j
  have ch : ∀ x j, x ≠ 77 + k → x ≠ 84 + k → x ≠ 90 → x ≠ 91 → y_mI m6 x j = y_mI m1 x j := by
    intro x j q1 q2 q3 q4
    rw [ch6, q_F_I g2 x j (by omega), f3]
    show y_mI m3 x j = _
    rw [q_F_I d2 x j (by omega), e_II' (by omega), e_II' (by omega), e_II' (by omega), q_F_I c2 x j (by omega)]
  have row6 : y_mI m6 (84 + k) = y_mI m5 (84 + k) := funext fun j => ch6 _ _
  have row7 : y_mI m6 (77 + k) = y_mI m3 (77 + k) := funext fun j => by rw [ch6, q_F_I g2 _ j (by omega), row4]
  refine ⟨m6, h1, ?_, F, d3, d4, d5, ?_, ?_, ?_, ?_, ?_, ?_, ?_, ?_, ?_⟩
  · refine q_F_trans (q_F_trans (q_F_trans (q_F_sI ?_) (q_F_sI ?_)) (q_F_sI ?_)) (q_F_trans (q_F_mono a2 ?_) (q_F_trans (q_F_mono c2 ?_) (q_F_trans (q_F_trans (q_F_trans (q_F_sI ?_) (q_F_sI ?_)) (q_F_sI ?_)) (q_F_trans (q_F_mono d2 ?_) (q_F_trans (q_F_sJ ?_) (q_F_trans (q_F_mono f2 ?_) (q_F_trans (q_F_mono g2 ?_) (q_F_trans (q_F_sJ ?_) (q_F_mono h2 ?_)))))))))
    all_goals (unfold q_ws; omega)
  · rw [ch 73 k (by omega) (by omega) (by omega) (by omega), q_F_I a2 73 k (by omega)]
    simp (disch := omega) only [z_w_id, if_pos, if_neg, e_g, e_bI, e_bV, e_bL, e_II, e_II', e_IJ, e_JI, e_JJ, e_JJ', reduceIte, not_true_eq_false, not_false_eq_true, true_or, or_true, true_and, and_true, e_nb0, e_gT]
  · rw [ch 74 k (by omega) (by omega) (by omega) (by omega), a4]
  · rw [ch 75 k (by omega) (by omega) (by omega) (by omega), a3]
  · rw [row7]; exact d6
  · rw [row7]; exact d7
  · rw [row6]; exact g3
  · rw [row6]; exact g4
  · rw [row7, q_F_J h2 71 k (by omega)]
    show y_mJ m5 71 k = _
    rw [q_F_J g2 71 k (by omega), f4]
  · rw [row6]; exact h4
theorem l_194a : ∀ (n i : Nat) (m : y_m), i + n = 7 → ∃ m', y_R sp ph d 194 2 [some (y_bo 11 0 49), some (y_bi (i : Int))] [] m = y_R sp ph d 194 26 [some (y_bo 11 0 49), none] [] m' ∧ q_F (fun a j => a = 52 ∧ j < 7) m m' ∧ (∀ j, i ≤ j → j < 7 → y_mI m' 52 j = y_mI m 51 j) ∧ ∀ j, j < i → y_mI m' 52 j = y_mI m 52 j := by
  intro n
  induction n with
  | zero =>
    intro i m h
    refine ⟨m, ?_, q_F_refl, fun j h1 h2 => absurd h2 (by omega), fun _ _ => rfl⟩
    rw [y_E_194_2]
    simp (disch := omega) only [z_w_id, if_pos, if_neg, e_g, e_bI, e_bV, e_bL, e_II, e_II', e_IJ, e_JI, e_JJ, e_JJ', reduceIte, not_true_eq_false, not_false_eq_true, true_or, or_true, true_and, and_true, e_nb0, e_gT]
  | succ n ih =>
    intro i m h
    obtain ⟨m', r1, r2, r3, r4⟩ := ih (i + 1) (y_sI m 52 i (y_mI m 51 i)) (by omega)
    refine ⟨m', ?_, q_F_trans (q_F_sI ⟨rfl, by omega⟩) r2, fun j h1 h2 => ?_, fun j h1 => ?_⟩
    · rw [y_E_194_2]
      simp (disch := omega) only [z_w_id, if_pos, if_neg, e_g, e_bI, e_bV, e_bL, e_II, e_II', e_IJ, e_JI, e_JJ, e_JJ', reduceIte, not_true_eq_false, not_false_eq_true, true_or, or_true, true_and, and_true, e_nb0, e_gT, Int.toNat_natCast]
      exact r1
    · by_cases c : j = i
      · subst c; rw [r4 j (by omega), e_II]
      · rw [r3 j (by omega) h2, e_II' (by omega)]
    · rw [r4 j (by omega), e_II' (by omega)]
/-- what stands writes of roots -/
def q_wr (a : Nat) : Prop := (71 ≤ a ∧ a ≤ 75) ∨ (78 ≤ a ∧ a ≤ 82) ∨ (85 ≤ a ∧ a ≤ 89) ∨ a = 90 ∨ a = 91
theorem q_rt_F {S : Nat → Nat → Prop} {m m' : y_m} {k A r : Nat} (h : q_rt m k A r) (hf : q_F S m m') (h1 : ¬ S 71 k) (h2 : ¬ S 72 k) (h3 : ¬ S 73 k) (h4 : ¬ S 74 k) (h5 : ¬ S 75 k) (h6 : ∀ j, ¬ S (77 + k) j) (h7 : ∀ j, ¬ S (84 + k) j) : q_rt m' k A r := by
  obtain ⟨F, a1, a2, a3, a4, a5, a6, a7, a8, a9, a10, a11, a12⟩ := h
  have e1 : y_mI m' (77 + k) = y_mI m (77 + k) := funext fun j => q_F_I hf _ j (h6 j)
  have e2 : y_mI m' (84 + k) = y_mI m (84 + k) := funext fun j => q_F_I hf _ j (h7 j)
  refine ⟨F, a1, a2, a3, ?_⟩
  rw [e1, e2, q_F_I hf 73 k h3, q_F_I hf 74 k h4, q_F_I hf 75 k h5, q_F_J hf 71 k h1, q_F_J hf 72 k h2]
  exact ⟨a4, a5, a6, a7, a8, a9, a10, a11, a12⟩
theorem l_194b {A B : Nat} (hA1 : 1 ≤ A) (hA' : A ≤ 99) (hB' : B ≤ 99) : ∀ (n i : Nat) (m : y_m), i + n = 6 → 1 ≤ i → y_mI m 52 2 = A → y_mI m 52 3 = B → (∀ k, 1 ≤ k → k < i → q_rt m k A (A * A + k * k * B * B)) → ∃ m', y_R sp ph (d + 3) 194 48 [some (y_bo 11 0 49), some (y_bi (i : Int))] [] m = y_rV m' ∧ q_F (fun a _ => q_wr a) m m' ∧ ∀ k, 1 ≤ k → k < 6 → q_rt m' k A (A * A + k * k * B * B) := by
  intro n
  induction n with
  | zero =>
    intro i m h h1 hA hB hk
    refine ⟨m, ?_, q_F_refl, fun k a b => hk k a (by omega)⟩
    rw [y_E_194_48]
    simp (disch := omega) only [z_w_id, if_pos, if_neg, e_g, e_bI, e_bV, e_bL, e_II, e_II', e_IJ, e_JI, e_JJ, e_JJ', reduceIte, not_true_eq_false, not_false_eq_true, true_or, or_true, true_and, and_true, e_nb0, e_gT, y_E_194_64]
  | succ n ih =>
    intro i m h h1 hA hB hk
    obtain ⟨m1, r1, r2, r3⟩ := t_202 (sp := sp) (ph := ph) (d := d) (k := i) (m := m) h1 (by omega) hA hB hA1 hA' hB'
    have w1 : ∀ a j, q_ws i a j → q_wr a := by unfold q_ws q_wr; intro a j h; omega
    obtain ⟨m', s1, s2, s3⟩ := ih (i + 1) m1 (by omega) (by omega) (by rw [q_F_I r2 52 2 (by unfold q_ws; omega)]; exact hA) (by rw [q_F_I r2 52 3 (by unfold q_ws; omega)]; exact hB) (fun k a b => by
      by_cases c : k = i
      · subst c; exact r3
      · exact q_rt_F (hk k a (by omega)) r2 (by unfold q_ws; omega) (by unfold q_ws; omega) (by unfold q_ws; omega) (by unfold q_ws; omega) (by unfold q_ws; omega) (fun j => by unfold q_ws; omega) (fun j => by unfold q_ws; omega))
    refine ⟨m', ?_, q_F_trans (q_F_mono r2 w1) s2, s3⟩
    rw [y_E_194_48]
    simp (disch := omega) only [z_w_id, if_pos, if_neg, e_g, e_bI, e_bV, e_bL, e_II, e_II', e_IJ, e_JI, e_JJ, e_JJ', reduceIte, not_true_eq_false, not_false_eq_true, true_or, or_true, true_and, and_true, e_nb0, e_gT, r1]
    exact s1
theorem t_194 {A B : Nat} {m : y_m} (hA1 : 1 ≤ A) (hA' : A ≤ 99) (hB' : B ≤ 99) (hA : y_mI m 51 2 = A) (hB : y_mI m 51 3 = B) : ∃ m', y_V sp ph (d + 4) 194 [y_bo 11 0 49] m = y_rV m' ∧ q_F (fun a j => a = 52 ∨ q_wr a ∨ (a = 49 ∧ 13 ≤ j ∧ j ≤ 16)) m m' ∧ (∀ j, j < 7 → y_mI m' 52 j = y_mI m 51 j) ∧ y_mI m' 49 13 = 0 ∧ y_mI m' 49 14 = 0 ∧ y_mI m' 49 15 = 0 ∧ y_mI m' 49 16 = 0 ∧ ∀ k, 1 ≤ k → k < 6 → q_rt m' k A (A * A + k * k * B * B) := by
  obtain ⟨m1, a1, a2, a3, -⟩ := l_194a (sp := sp) (ph := ph) (d := d + 3) 7 0 m (by omega)
  obtain ⟨m2, b1, b2, b3⟩ := l_194b (sp := sp) (ph := ph) (d := d) (A := A) (B := B) hA1 hA' hB' 5 1 (y_sI (y_sI (y_sI (y_sI m1 49 13 0) 49 14 0) 49 15 0) 49 16 0) (by omega) (by omega) (by simp (disch := omega) only [z_w_id, if_pos, if_neg, e_g, e_bI, e_bV, e_bL, e_II, e_II', e_IJ, e_JI, e_JJ, e_JJ', reduceIte, not_true_eq_false, not_false_eq_true, true_or, or_true, true_and, and_true, e_nb0, e_gT]; rw [a3 2 (by omega) (by omega)]; exact hA) (by simp (disch := omega) only [z_w_id, if_pos, if_neg, e_g, e_bI, e_bV, e_bL, e_II, e_II', e_IJ, e_JI, e_JJ, e_JJ', reduceIte, not_true_eq_false, not_false_eq_true, true_or, or_true, true_and, and_true, e_nb0, e_gT]; rw [a3 3 (by omega) (by omega)]; exact hB) (fun k h1 h2 => absurd h2 (by omega))
  have nw1 : ¬ q_wr 52 := by unfold q_wr; omega
  have nw2 : ¬ q_wr 49 := by unfold q_wr; omega
  refine ⟨m2, ?_, ?_, fun j hj => ?_, ?_, ?_, ?_, ?_, b3⟩
  · simp only [y_C_194, y_E_194_0]
    have a1' : y_R sp ph (d + 3) 194 2 [some (y_bo 11 0 49), some (y_bi 0)] [] m = _ := a1
    rw [a1', y_E_194_26]
    exact b1
  · exact q_F_trans (q_F_mono a2 (fun a j h => Or.inl h.1)) (q_F_trans (q_F_trans (q_F_trans (q_F_trans (q_F_sI (by omega)) (q_F_sI (by omega))) (q_F_sI (by omega))) (q_F_sI (by omega))) (q_F_mono b2 (fun a j h => Or.inr (Or.inl h))))
  · rw [q_F_I b2 52 j nw1]
    simp (disch := omega) only [z_w_id, if_pos, if_neg, e_g, e_bI, e_bV, e_bL, e_II, e_II', e_IJ, e_JI, e_JJ, e_JJ', reduceIte, not_true_eq_false, not_false_eq_true, true_or, or_true, true_and, and_true, e_nb0, e_gT]
    exact a3 j (by omega) hj
  all_goals
    rw [q_F_I b2 49 _ nw2]
    simp (disch := omega) only [z_w_id, if_pos, if_neg, e_g, e_bI, e_bV, e_bL, e_II, e_II', e_IJ, e_JI, e_JJ, e_JJ', reduceIte, not_true_eq_false, not_false_eq_true, true_or, or_true, true_and, and_true, e_nb0, e_gT]
end Stands
