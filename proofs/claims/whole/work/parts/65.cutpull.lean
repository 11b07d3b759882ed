/-! ===== pulls cut ===== -/
theorem q_ru_shift {A : Nat} {P : Nat → Nat} {D : Nat → Int} (c : Int) : ∀ (n j : Nat) (up low : Int), q_ru A P D n j (up + c * low) low = ((q_ru A P D n j up low).1 + c * (q_ru A P D n j up low).2, (q_ru A P D n j up low).2) := by
  intro n
  induction n with
  | zero => intro j up low; rfl
  | succ n ih =>
    intro j up low
    rw [q_ru, q_ru]
    by_cases h : D j = 0
    · rw [if_pos h, if_pos h, ih]
    · rw [if_neg h, if_neg h, ← ih]
      congr 1
      grind
theorem q_ru_congr {A : Nat} {P Q : Nat → Nat} {D E : Nat → Int} (hD : ∀ k, 1 ≤ k → k < 6 → D k = E k) (hP : ∀ k, 1 ≤ k → k < 6 → D k ≠ 0 → P k = Q k) : ∀ (n j : Nat) (up low : Int), j + n ≤ 6 → 1 ≤ j → q_ru A P D n j up low = q_ru A Q E n j up low := by
  intro n
  induction n with
  | zero => intro j up low _ _; rfl
  | succ n ih =>
    intro j up low hj h1
    rw [q_ru, q_ru, ← hD j h1 (by omega)]
    by_cases h : D j = 0
    · rw [if_pos h, if_pos h, ih _ _ _ (by omega) (by omega)]
    · rw [if_neg h, if_neg h, hP j h1 (by omega) h, ih _ _ _ (by omega) (by omega)]
theorem q_iw_ok {Fr : Nat → Nat} {D : Nat → Int} : ∀ (n k : Nat) (b : Bool), q_iw Fr D n k b = true ↔ (b = true ∧ ∀ j, k ≤ j → j < k + n → D j = 0 ∨ Fr j = 1)
  | 0, k, b => by
    rw [q_iw]
    exact ⟨fun h => ⟨h, fun j h1 h2 => absurd h2 (by omega)⟩, fun h => h.1⟩
  | n + 1, k, b => by
    rw [q_iw, q_iw_ok n (k + 1)]
    simp only [Bool.and_eq_true, Bool.or_eq_true, decide_eq_true_eq]
    constructor
    · rintro ⟨⟨h1, h2⟩, h3⟩
      refine ⟨h1, fun j a b => ?_⟩
      by_cases c : j = k
      · subst c; exact h2
      · exact h3 j (by omega) (by omega)
    · rintro ⟨h1, h2⟩
      exact ⟨⟨h1, h2 k (by omega) (by omega)⟩, fun j a b => h2 j (by omega) (by omega)⟩
/-- THE CUT of a pull -/
theorem q_cutP {A B : Nat} {D : Nat → Int} (hb : v_boot A B = true) (hA : 1 ≤ A) (hA' : A ≤ 99) (hB : B ≤ 99) (hF : q_Fex A B) (hD : q_box D) (hp : q_pos D) : q_cu true A B D = (q_fx true A B D + 64) * 1000000 / 288230376151711744 ∧ (q_iw (q_Fr A B) D 5 1 true = true → (q_ru A (q_P A B) D 5 1 (D 0) 1).2 ≤ 9000000000000) := by
  obtain ⟨hv, -, -, -, c4, c5⟩ := v_boot_ok hb
  have hp' := hp
  obtain ⟨p0, p1, p2, p3, p4, p5⟩ := hp'
  have hD' := hD
  obtain ⟨-, -, -, d2, -, d4, -, d6, -, d8, -, d10⟩ := hD'
  have efx := q_fx_nat (pull := true) (A := A) (B := B) hp
  rw [q_cc_t, q_cc_t, q_cc_t, q_cc_t, q_cc_t, show q_TT true = 288230376151711744 from rfl] at efx
  have p58 : (2 : Nat) ^ 58 = 288230376151711744 := by decide
  unfold q_cu
  by_cases hw : q_iw (q_Fr A B) D 5 1 true = true
  · have hw' := ((q_iw_ok 5 1 true).mp hw).2
    rw [if_pos (by rw [hw]; rfl)]
    have lim : ∀ k c, 1 ≤ k → k < 6 → (D k).toNat < c → (D k).toNat < (bif v_sq A B k then c else 1) := by
      intro k c a b hc
      rcases hw' k a (by omega) with q | q
      · rw [q]; cases v_sq A B k
        · show (0 : Int).toNat < 1; decide
        · rw [q] at hc; exact hc
      · rw [(v_sq_mk hA hA' hB b (hv k a b) q).1]; exact hc
    unfold v_cws at c5
    have w1 := v_all_ok c5 (D 1).toNat (lim 1 11 (by decide) (by decide) (by omega))
    have w2 := v_all_ok w1 (D 2).toNat (lim 2 9 (by decide) (by decide) (by omega))
    have w3 := v_all_ok w2 (D 3).toNat (lim 3 7 (by decide) (by decide) (by omega))
    have w4 := v_all_ok w3 (D 4).toNat (lim 4 5 (by decide) (by decide) (by omega))
    have w5 := v_all_ok w4 (D 5).toNat (lim 5 3 (by decide) (by decide) (by omega))
    have w5' : v_cw A B (v_pl A B 1) (v_pl A B 2) (v_pl A B 3) (v_pl A B 4) (v_pl A B 5) (D 1).toNat (D 2).toNat (D 3).toNat (D 4).toNat (D 5).toNat = true := w5
    unfold v_cw at w5'
    rw [Int.toNat_of_nonneg p1, Int.toNat_of_nonneg p2, Int.toNat_of_nonneg p3, Int.toNat_of_nonneg p4, Int.toNat_of_nonneg p5] at w5'
    rw [q_ru_congr (P := fun k => v_rt A B k / 2 ^ 48) (Q := q_P A B) (D := v_D 0 (D 1) (D 2) (D 3) (D 4) (D 5)) (E := D) (fun k a b => by
      rcases (show k = 1 ∨ k = 2 ∨ k = 3 ∨ k = 4 ∨ k = 5 by omega) with rfl | rfl | rfl | rfl | rfl <;> rfl) (fun k a b hk => by
      have hk' : D k ≠ 0 := by
        rcases (show k = 1 ∨ k = 2 ∨ k = 3 ∨ k = 4 ∨ k = 5 by omega) with rfl | rfl | rfl | rfl | rfl <;> exact hk
      exact (v_sq_mk hA hA' hB b (hv k a b) ((hw' k a (by omega)).resolve_left hk')).2) 5 1 0 1 (by decide) (by decide)] at w5'
    have sh := q_ru_shift (A := A) (P := q_P A B) (D := D) (D 0) 5 1 0 1
    rw [show (0 : Int) + D 0 * 1 = D 0 by omega] at sh
    rw [sh]
    have pos : 1 ≤ (q_ru A (q_P A B) D 5 1 0 1).2 := by
      have : ∀ (n j : Nat) (up low : Int), 1 ≤ low → j + n ≤ 6 → 1 ≤ (q_ru A (q_P A B) D n j up low).2 := by
        intro n
        induction n with
        | zero => intro j up low h _; exact h
        | succ n ih =>
          intro j up low h hj
          rw [q_ru]
          split
          · exact ih _ _ _ h (by omega)
          · refine ih _ _ _ ?_ (by omega)
            have hP := (q_P_b (B := B) (k := j) hA hA' hB (by omega)).1
            have := Int.mul_le_mul h (show (1 : Int) ≤ q_P A B j by omega) (by decide) (by omega)
            omega
      exact this 5 1 0 1 (by decide) (by decide)
    generalize q_ru A (q_P A B) D 5 1 0 1 = u at *
    obtain ⟨u1, u2⟩ := u
    simp only [Bool.and_eq_true, decide_eq_true_eq] at w5'
    obtain ⟨w6, w7⟩ := w5'
    dsimp only at pos ⊢
    refine ⟨?_, fun _ => w6⟩
    rw [Int.add_mul_ediv_right _ _ (by omega), Int.add_mul_emod_self_right, efx]
    rw [p58] at w7
    generalize (D 1).toNat * v_pl A B 1 + (D 2).toNat * v_pl A B 2 + (D 3).toNat * v_pl A B 3 + (D 4).toNat * v_pl A B 4 + (D 5).toNat * v_pl A B 5 = X at *
    have e : (D 0 * 288230376151711744 + (X : Int) + 64) * 1000000 / 288230376151711744 = D 0 * 1000000 + (((X + 64) * 1000000 / 288230376151711744 : Nat) : Int) := by
      rw [show (D 0 * 288230376151711744 + (X : Int) + 64) * 1000000 = ((X : Int) + 64) * 1000000 + D 0 * 1000000 * 288230376151711744 by omega, Int.add_mul_ediv_right _ _ (by decide), Int.natCast_ediv, Int.natCast_mul, Int.natCast_add]
      omega
    rw [e, w7]
    generalize u1 % u2 * 1000000 / u2 = z1
    generalize u1 / u2 = z2
    omega
  · refine ⟨?_, fun q => absurd q hw⟩
    rw [if_neg (by cases hq : q_iw (q_Fr A B) D 5 1 true
                   · decide
                   · exact absurd hq hw)]
    show q_NN true A B D / 10 ^ 214 = _
    have fl : ¬ (1000000 * ((D 1).toNat * v_pl A B 1 + (D 2).toNat * v_pl A B 2 + (D 3).toNat * v_pl A B 3 + (D 4).toNat * v_pl A B 4 + (D 5).toNat * v_pl A B 5) + 64000000) % 2 ^ 58 ≤ 125000000 := by
      intro fl
      have sq := v_ct_ok c4 (by decide) (by decide) (by decide) (m1 := (D 1).toNat) (m2 := (D 2).toNat) (m3 := (D 3).toNat) (m4 := (D 4).toNat) (m5 := (D 5).toNat) (by omega) (by omega) (by omega) (by omega) (by omega) fl
      refine hw ((q_iw_ok 5 1 true).mpr ⟨rfl, fun j a b => ?_⟩)
      have g : ∀ k, 0 ≤ D k → ((D k).toNat = 0 ∨ v_sq A B k = true) → D k = 0 ∨ q_Fr A B k = 1 := by
        intro k h0 h
        rcases h with q | q
        · exact Or.inl (by omega)
        · obtain ⟨s, -, -, s3⟩ := v_sq_ok q; exact Or.inr s3
      rcases (show j = 1 ∨ j = 2 ∨ j = 3 ∨ j = 4 ∨ j = 5 by omega) with rfl | rfl | rfl | rfl | rfl
      · exact g 1 p1 sq.1
      · exact g 2 p2 sq.2.1
      · exact g 3 p3 sq.2.2.1
      · exact g 4 p4 sq.2.2.2.1
      · exact g 5 p5 sq.2.2.2.2
    obtain ⟨lo, hi⟩ := q_near true hF hA hv hD
    rw [show q_TT true = 288230376151711744 from rfl] at lo hi
    rw [p58] at fl
    have e214 : (10 : Int) ^ 220 = 1000000 * 10 ^ 214 := by decide
    have h214 := n_pow_pos 214
    generalize (D 1).toNat * v_pl A B 1 + (D 2).toNat * v_pl A B 2 + (D 3).toNat * v_pl A B 3 + (D 4).toNat * v_pl A B 4 + (D 5).toNat * v_pl A B 5 = X at *
    generalize q_fx true A B D = x at *
    generalize q_NN true A B D = N at *
    have hx : 1000000 * x = (1000000 * x) / 288230376151711744 * 288230376151711744 + (1000000 * x) % 288230376151711744 := by omega
    have hm : (1000000 * x) % 288230376151711744 = (1000000 * (X : Int)) % 288230376151711744 := by
      rw [efx, show 1000000 * (D 0 * 288230376151711744 + (X : Int)) = 1000000 * (X : Int) + 288230376151711744 * (1000000 * D 0) by omega, Int.add_mul_emod_self_left]
    have he : 61000000 < (1000000 * x) % 288230376151711744 ∧ (1000000 * x) % 288230376151711744 + 64000000 < 288230376151711744 := by
      rw [n_win (by decide)] at fl
      have hc : (((1000000 * X) % 288230376151711744 : Nat) : Int) = 1000000 * (X : Int) % 288230376151711744 := by rw [Int.natCast_emod, Int.natCast_mul]; rfl
      rw [hm, ← hc]
      clear lo hi efx hx hm hc
      have hrr := Nat.mod_lt (1000000 * X) (show 0 < 288230376151711744 by decide)
      generalize (1000000 * X) % 288230376151711744 = rr at *
      split at fl <;> omega
    have hr : (x + 64) * 1000000 / 288230376151711744 = (1000000 * x) / 288230376151711744 := by omega
    rw [hr]
    generalize (1000000 * x) / 288230376151711744 = b at *
    generalize (1000000 * x) % 288230376151711744 = ee at *
    rw [e214] at lo hi
    generalize (10 : Int) ^ 214 = R at *
    have k0 : 1000000 * x * R = b * R * 288230376151711744 + ee * R := by rw [hx]; grind
    have k1 : 61000000 * R ≤ ee * R := Int.mul_le_mul_of_nonneg_right (by omega) (Int.le_of_lt h214)
    have k2 : (ee + 64000000) * R ≤ 288230376151711744 * R := Int.mul_le_mul_of_nonneg_right (by omega) (Int.le_of_lt h214)
    have k3 : x * (1000000 * R) = 1000000 * x * R := by grind
    have e4 : (ee + 64000000) * R = ee * R + 64000000 * R := by grind
    have g1 : b * R * 288230376151711744 < N * 288230376151711744 := by omega
    have g2 : N * 288230376151711744 < (b + 1) * R * 288230376151711744 := by
      have e3 : (b + 1) * R * 288230376151711744 = b * R * 288230376151711744 + 288230376151711744 * R := by grind
      omega
    have g1' := Int.lt_of_mul_lt_mul_right g1 (by decide)
    have g2' := Int.lt_of_mul_lt_mul_right g2 (by decide)
    refine Int.le_antisymm ?_ ((Int.le_ediv_iff_mul_le h214).mpr (Int.le_of_lt g1'))
    have := Int.ediv_lt_of_lt_mul h214 g2'
    omega
