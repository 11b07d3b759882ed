/-! ===== sums of roots: the class's numbers and the reference's tell the same ===== -/
theorem q_nt_congr {pull : Bool} {A : Nat} {P Fr : Nat → Nat} {D E : Nat → Int} (h : ∀ k, k < 6 → D k = E k) : ∀ (n k : Nat), k + n = 6 → 1 ≤ k → q_nt pull A P Fr D n k = q_nt pull A P Fr E n k := by
  have g1 : ∀ (n j : Nat) (up low : Int), j + n ≤ 6 → q_g1 pull A P Fr D n j up low = q_g1 pull A P Fr E n j up low := by
    intro n
    induction n with
    | zero => intro j up low _; rfl
    | succ n ih => intro j up low hj; rw [q_g1, q_g1, h j (by omega), ih _ _ _ (by omega), ih _ _ _ (by omega)]
  have gs : ∀ (k n j : Nat) (up low : Int), j + n ≤ 6 → q_gs pull P Fr D k n j up low = q_gs pull P Fr E k n j up low := by
    intro k n
    induction n with
    | zero => intro j up low _; rfl
    | succ n ih => intro j up low hj; rw [q_gs, q_gs, h j (by omega), ih _ _ _ (by omega), ih _ _ _ (by omega)]
  intro n
  induction n with
  | zero => intro k _ _; rw [q_nt, q_nt, g1 5 1 _ _ (by omega), h 0 (by decide)]
  | succ n ih => intro k hk h1; rw [q_nt, q_nt, gs k _ _ _ _ (by omega), ih (k + 1) (by omega) (by omega)]
theorem q_nt_zero {pull : Bool} {A : Nat} {P Fr : Nat → Nat} {D : Nat → Int} (h : ∀ k, k < 6 → D k = 0) : ∀ (n k : Nat), k + n = 6 → 1 ≤ k → q_nt pull A P Fr D n k = true := by
  have g1 : ∀ (n j : Nat) (low : Int), j + n ≤ 6 → q_g1 pull A P Fr D n j 0 low = 0 := by
    intro n
    induction n with
    | zero => intro j low _; rfl
    | succ n ih =>
      intro j low hj
      rw [q_g1, h j (by omega)]
      cases pull
      · simp only [Int.zero_mul, Int.add_zero, Bool.false_eq_true, reduceIte]; split <;> exact ih _ _ (by omega)
      · simp only [Int.zero_mul, Int.add_zero, reduceIte]; split <;> exact ih _ _ (by omega)
  have gs : ∀ (k n j : Nat) (low : Int), j + n ≤ 6 → q_gs pull P Fr D k n j 0 low = 0 := by
    intro k n
    induction n with
    | zero => intro j low _; rfl
    | succ n ih =>
      intro j low hj
      rw [q_gs, h j (by omega)]
      cases pull
      · simp only [Int.zero_mul, Int.add_zero, Bool.false_eq_true, reduceIte]; split <;> exact ih _ _ (by omega)
      · simp only [Int.zero_mul, Int.add_zero, reduceIte]; split <;> exact ih _ _ (by omega)
  intro n
  induction n with
  | zero => intro k _ _; rw [q_nt, h 0 (by decide), g1 5 1 _ (by omega)]; rfl
  | succ n ih =>
    intro k hk h1
    rw [q_nt, gs k _ _ _ (by omega), if_neg (fun q => q.2 rfl)]
    exact ih (k + 1) (by omega) (by omega)
/-- roots compared: a by P, b by Q -/
theorem q_sqlt {a b r P Q : Int} (ha : 0 ≤ a) (hb : 0 ≤ b) (hP : 0 < P) (hQ : 0 < Q) (h1 : a * a ≤ r * (P * P)) (h2 : r * (Q * Q) < b * b) : a * Q < b * P := by
  rcases Int.lt_or_le (a * Q) (b * P) with q | q
  · exact q
  · have e1 : (b * P) * (b * P) ≤ (a * Q) * (a * Q) := Int.mul_le_mul q q (Int.mul_nonneg hb (Int.le_of_lt hP)) (Int.mul_nonneg ha (Int.le_of_lt hQ))
    have e2 : (a * Q) * (a * Q) = (a * a) * (Q * Q) := by grind
    have e3 : (b * P) * (b * P) = (b * b) * (P * P) := by grind
    have e4 : (a * a) * (Q * Q) ≤ r * (P * P) * (Q * Q) := Int.mul_le_mul_of_nonneg_right h1 (Int.le_of_lt (Int.mul_pos hQ hQ))
    have e5 : r * (Q * Q) * (P * P) < (b * b) * (P * P) := Int.mul_lt_mul_of_pos_right h2 (Int.mul_pos hP hP)
    have e6 : r * (P * P) * (Q * Q) = r * (Q * Q) * (P * P) := by grind
    omega
/-- what the numbers of a boot are -/
theorem v_rok_ok {A B k : Nat} (h : v_rok A B k = true) : v_rt A B k * v_rt A B k ≤ v_N A B k ∧ v_N A B k < (v_rt A B k + 1) * (v_rt A B k + 1) := by
  unfold v_rok at h
  rw [Bool.and_eq_true] at h
  exact ⟨Nat.le_of_ble_eq_true h.1, Nat.le_of_ble_eq_true h.2⟩
theorem v_F {r l : Nat} {F : Int} (hF : q_isF r F) (h1 : l * l ≤ r * 2 ^ 96) (h2 : r * 2 ^ 96 < (l + 1) * (l + 1)) : F * 2 ^ 48 < (l + 1) * 10 ^ 220 ∧ (l : Int) * 10 ^ 220 < (F + 1) * 2 ^ 48 := by
  obtain ⟨f0, f1, f2⟩ := hF
  have e1 : (100 : Int) ^ 220 = 10 ^ 220 * 10 ^ 220 := by decide
  have e2 : ((2 : Nat) ^ 96 : Nat) = 2 ^ 48 * 2 ^ 48 := by decide
  rw [e1] at f1 f2
  rw [e2] at h1 h2
  have i1 : (l : Int) * l ≤ r * (2 ^ 48 * 2 ^ 48) := by
    have := Int.ofNat_le.mpr h1
    simpa [Int.natCast_mul] using this
  have i2 : (r : Int) * (2 ^ 48 * 2 ^ 48) < (l + 1) * (l + 1) := by
    have := Int.ofNat_lt.mpr h2
    simpa [Int.natCast_mul] using this
  exact ⟨q_sqlt f0 (by omega) (n_pow_pos 220) (by decide) f1 i2, q_sqlt (by omega) (by omega) (by decide) (n_pow_pos 220) i1 f2⟩
theorem q_pred_sq (Z : Nat) (h : 1 ≤ Z) : (Z - 1) * (Z - 1) + 2 * Z = Z * Z + 1 := by
  cases Z with
  | zero => omega
  | succ z => rw [Nat.add_sub_cancel]; grind
/-- a pull's number, by the root with sixteen bits more -/
theorem v_Z {r l more rest N : Nat} (hN : N = r * 2 ^ 96) (h1 : l * l + rest = N) (h2 : rest ≤ 2 * l) (hl : 2 ^ 48 ≤ l) (hm : more = rest * 65536 / (2 * l)) : (l * 65536 + more - 1) * (l * 65536 + more - 1) ≤ r * 2 ^ 128 ∧ r * 2 ^ 128 < (l * 65536 + more + 1) * (l * 65536 + more + 1) := by
  have p48 : (2 : Nat) ^ 48 = 281474976710656 := by decide
  have hl0 : 0 < 2 * l := by omega
  have m1 : 2 * l * more ≤ rest * 65536 := by rw [hm]; exact Nat.mul_div_le _ _
  have m2 : rest * 65536 < 2 * l * (more + 1) := by rw [hm]; exact Nat.lt_mul_div_succ _ hl0
  have m3 : more ≤ 65536 := by
    rcases Nat.lt_or_ge 65536 more with q | q
    · have := Nat.mul_le_mul_left (2 * l) (show 65537 ≤ more by omega)
      omega
    · exact q
  have m4 : more * more ≤ 65536 * 65536 := Nat.mul_le_mul m3 m3
  have e128 : r * 2 ^ 128 = 4294967296 * N := by rw [hN, show (2 : Nat) ^ 128 = 4294967296 * 2 ^ 96 by decide]; grind
  have ez : (l * 65536 + more) * (l * 65536 + more) = 4294967296 * (l * l) + 65536 * (2 * l * more) + more * more := by grind
  have ez1 : (l * 65536 + more + 1) * (l * 65536 + more + 1) = (l * 65536 + more) * (l * 65536 + more) + 2 * (l * 65536 + more) + 1 := by grind
  have ez2 := q_pred_sq (l * 65536 + more) (by omega)
  have m5 : 2 * l * (more + 1) = 2 * l * more + 2 * l := by rw [Nat.mul_add, Nat.mul_one]
  rw [m5] at m2
  rw [e128, ez1, ez]
  rw [ez] at ez2
  generalize (l * 65536 + more - 1) * (l * 65536 + more - 1) = zz at *
  generalize 2 * l * more = lm at *
  generalize more * more = mm at *
  generalize l * l = ll at *
  clear hm hN e128 m5 ez ez1
  constructor
  · omega
  · omega
theorem v_plb {A r l more : Nat} (hr : 0 < r) : 64 * (q_pl A r l more * r) ≤ A * (l * 65536 + more) ∧ A * (l * 65536 + more) < 64 * ((q_pl A r l more + 1) * r) := by
  have a1 : l = r * (l / r) + l % r := (Nat.div_add_mod l r).symm
  have b1 := Nat.div_add_mod (A * (l % r) * 1024 + A * more / 64) r
  have b2 := Nat.mod_lt (A * (l % r) * 1024 + A * more / 64) hr
  have c1 := Nat.div_add_mod (A * more) 64
  have c2 := Nat.mod_lt (A * more) (show 0 < 64 by decide)
  have e1 : A * (l * 65536 + more) = 65536 * (A * l) + A * more := by grind
  have e2 : A * l = A * (l / r) * r + A * (l % r) := by
    have : A * l = A * (r * (l / r) + l % r) := by rw [← a1]
    rw [this]; grind
  have e3 : q_pl A r l more * r = 1024 * (A * (l / r) * r) + (A * (l % r) * 1024 + A * more / 64) / r * r := by unfold q_pl; grind
  have e4 : (q_pl A r l more + 1) * r = q_pl A r l more * r + r := by grind
  rw [e1, e4, e3, e2]
  generalize (A * (l % r) * 1024 + A * more / 64) % r = m1 at *
  rw [Nat.mul_comm r] at b1
  generalize (A * (l % r) * 1024 + A * more / 64) / r * r = q1 at *
  generalize A * more / 64 = q2 at *
  omega
