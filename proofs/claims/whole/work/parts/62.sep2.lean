/-! ===== sums of roots: signs ===== -/
theorem q_pullb {A r Z pl F G Q T : Int} (hA : 1 ≤ A) (hAr : A ≤ r) (hQ : 0 < Q) (hT : 0 < T) (hTQ : 2 * T ≤ Q) (h1 : 64 * (pl * r) ≤ A * Z) (h2 : A * Z < 64 * ((pl + 1) * r)) (h3 : (Z - 1) * Q < (F + 1) * (64 * T)) (h4 : F * (64 * T) < (Z + 1) * Q) (h5 : G * r ≤ A * F) (h6 : A * F < G * r + r) : -(2 * Q) ≤ G * T - pl * Q ∧ G * T - pl * Q ≤ 2 * Q := by
  have hr : 0 < 64 * r := by omega
  have a0 : A * Q ≤ r * Q := Int.mul_le_mul_of_nonneg_right hAr (Int.le_of_lt hQ)
  have a00 : A * (64 * T) ≤ r * (64 * T) := Int.mul_le_mul_of_nonneg_right hAr (by omega)
  constructor
  · have b1 : 64 * (pl * r) * Q ≤ A * Z * Q := Int.mul_le_mul_of_nonneg_right h1 (Int.le_of_lt hQ)
    have b2 : A * ((Z - 1) * Q) < A * ((F + 1) * (64 * T)) := Int.mul_lt_mul_of_pos_left h3 (by omega)
    have b3 : A * F * (64 * T) < (G * r + r) * (64 * T) := Int.mul_lt_mul_of_pos_right h6 (by omega)
    have e1 : A * ((Z - 1) * Q) = A * Z * Q - A * Q := by grind
    have e2 : A * ((F + 1) * (64 * T)) = A * F * (64 * T) + A * (64 * T) := by grind
    have e3 : (G * r + r) * (64 * T) = 64 * r * (G * T) + r * (64 * T) := by grind
    have e4 : 64 * (pl * r) * Q = 64 * r * (pl * Q) := by grind
    have b4 : r * (64 * T) + r * (64 * T) + r * Q ≤ 64 * r * (2 * Q) := by
      have c1 : r * (2 * T) ≤ r * Q := Int.mul_le_mul_of_nonneg_left hTQ (by omega)
      have c2 : r * (64 * T) = 32 * (r * (2 * T)) := by grind
      have c3 : 64 * r * (2 * Q) = 128 * (r * Q) := by grind
      have c4 : 0 ≤ r * Q := Int.mul_nonneg (by omega) (Int.le_of_lt hQ)
      omega
    have b5 : 64 * r * (pl * Q) < 64 * r * (G * T + 2 * Q) := by rw [Int.mul_add]; omega
    have := Int.lt_of_mul_lt_mul_left b5 (Int.le_of_lt hr)
    omega
  · have b1 : 64 * T * (G * r) ≤ 64 * T * (A * F) := Int.mul_le_mul_of_nonneg_left h5 (by omega)
    have b2 : A * (F * (64 * T)) < A * ((Z + 1) * Q) := Int.mul_lt_mul_of_pos_left h4 (by omega)
    have b3 : A * Z * Q < 64 * ((pl + 1) * r) * Q := Int.mul_lt_mul_of_pos_right h2 hQ
    have e1 : 64 * T * (A * F) = A * (F * (64 * T)) := by grind
    have e2 : A * ((Z + 1) * Q) = A * Z * Q + A * Q := by grind
    have e3 : 64 * ((pl + 1) * r) * Q = 64 * r * (pl * Q) + 64 * (r * Q) := by grind
    have e4 : 64 * T * (G * r) = 64 * r * (G * T) := by grind
    have c4 : 0 ≤ r * Q := Int.mul_nonneg (by omega) (Int.le_of_lt hQ)
    have c3 : 64 * r * (2 * Q) = 128 * (r * Q) := by grind
    have b5 : 64 * r * (G * T) < 64 * r * (pl * Q + 2 * Q) := by rw [Int.mul_add]; omega
    have := Int.lt_of_mul_lt_mul_left b5 (Int.le_of_lt hr)
    omega
def q_cc (pull : Bool) (A B k : Nat) : Nat := if pull then v_pl A B k else v_rt A B k
def q_tt (pull : Bool) : Nat := if pull then 58 else 48
def q_TT (pull : Bool) : Int := if pull then 288230376151711744 else 281474976710656
theorem q_TT_eq (pull : Bool) : q_TT pull = ((2 ^ q_tt pull : Nat) : Int) := by cases pull <;> rfl
theorem q_isF_ex {m : y_m} {A B k : Nat} (h : q_RR m A B) (h1 : 1 ≤ k) (h2 : k < 6) : q_isF (q_r A B k) (q_Fv (q_r A B k)) := by
  obtain ⟨F, a1, a2, a3, -⟩ := h.2.2.2.2 k h1 h2
  rw [q_Fv_eq ⟨a1, a2, a3⟩]; exact ⟨a1, a2, a3⟩
/-- the digits' number is there -/
def q_Fex (A B : Nat) : Prop := ∀ k, 1 ≤ k → k < 6 → q_isF (q_r A B k) (q_Fv (q_r A B k))
theorem q_cc_f {A B k : Nat} : q_cc false A B k = v_rt A B k := by unfold q_cc; rw [if_neg (by decide)]
theorem q_cc_t {A B k : Nat} : q_cc true A B k = v_pl A B k := by unfold q_cc; rw [if_pos rfl]
theorem q_Y_f {A B k : Nat} : q_Y false A B k = q_Fv (q_r A B k) := by unfold q_Y; rw [if_neg (by decide)]
theorem q_Y_t {A B k : Nat} : q_Y true A B k = A * q_Fv (q_r A B k) / (q_r A B k : Nat) := by unfold q_Y; rw [if_pos rfl]
theorem q_big : (576460752303423488 : Int) ≤ 10 ^ 220 := by decide
theorem q_sq220 : (100 : Int) ^ 220 = 10 ^ 220 * 10 ^ 220 := by decide
/-- the pull's number by the root's, over whole numbers alone -/
theorem q_Yp {A r l more rest N pl : Nat} {F Q : Int} (hQ : 0 < Q) (hbig : 576460752303423488 ≤ Q) (f0 : 0 ≤ F) (f1 : F * F ≤ r * (Q * Q)) (f2 : (r : Int) * (Q * Q) < (F + 1) * (F + 1)) (hA : 1 ≤ A) (hAr : A ≤ r) (hN : N = r * 2 ^ 96) (h1 : l * l + rest = N) (h2 : rest ≤ 2 * l) (hl : 2 ^ 48 ≤ l) (hm : more = rest * 65536 / (2 * l)) (hpl : pl = q_pl A r l more) : -(2 * Q) ≤ A * F / (r : Int) * 288230376151711744 - pl * Q ∧ A * F / (r : Int) * 288230376151711744 - pl * Q ≤ 2 * Q := by
  have hr : 0 < r := by omega
  have hz := v_Z (r := r) hN h1 h2 hl hm
  have hp := v_plb (A := A) (r := r) (l := l) (more := more) hr
  rw [← hpl] at hp
  have hZ1 : 1 ≤ l * 65536 + more := by
    have : (2 : Nat) ^ 48 = 281474976710656 := by decide
    omega
  clear hm hpl h1 h2 hl hN
  obtain ⟨Z, hZ⟩ : ∃ Z, Z = l * 65536 + more := ⟨_, rfl⟩
  rw [← hZ] at hz hp hZ1
  have e2 : ((2 : Nat) ^ 128 : Nat) = 18446744073709551616 * 18446744073709551616 := by decide
  rw [e2] at hz
  have i1 : ((Z : Int) - 1) * ((Z : Int) - 1) ≤ (r : Int) * (18446744073709551616 * 18446744073709551616) := by
    have := Int.ofNat_le.mpr hz.1
    rw [Int.natCast_mul, Int.natCast_mul, Int.natCast_sub hZ1] at this
    exact this
  have i2 : (r : Int) * (18446744073709551616 * 18446744073709551616) < ((Z : Int) + 1) * ((Z : Int) + 1) := by
    have := Int.ofNat_lt.mpr hz.2
    rw [Int.natCast_mul, Int.natCast_mul] at this
    exact this
  have g1 := q_sqlt (a := (Z : Int) - 1) (b := F + 1) (by omega) (by omega) (show (0 : Int) < 18446744073709551616 by decide) hQ i1 f2
  have g2 := q_sqlt (a := F) (b := (Z : Int) + 1) f0 (by omega) hQ (show (0 : Int) < 18446744073709551616 by decide) f1 i2
  have d1 : (A : Int) * F / (r : Int) * r + (A : Int) * F % r = (A : Int) * F := by rw [Int.mul_comm]; exact Int.mul_ediv_add_emod _ _
  have d2 : 0 ≤ (A : Int) * F % r := Int.emod_nonneg _ (by omega)
  have d3 : (A : Int) * F % r < r := Int.emod_lt_of_pos _ (by omega)
  have c1 : (64 : Int) * ((pl : Int) * r) ≤ (A : Int) * Z := by
    have := Int.ofNat_le.mpr hp.1
    rw [Int.natCast_mul, Int.natCast_mul, Int.natCast_mul] at this
    exact this
  have c2 : (A : Int) * Z < 64 * (((pl : Int) + 1) * r) := by
    have := Int.ofNat_lt.mpr hp.2
    rw [Int.natCast_mul, Int.natCast_mul, Int.natCast_mul] at this
    exact this
  exact q_pullb (A := A) (r := r) (Z := Z) (pl := pl) (F := F) (G := (A : Int) * F / (r : Int)) (Q := Q) (T := 288230376151711744) (by omega) (by omega) hQ (by decide) hbig c1 c2 g1 g2 (by omega) (by omega)
theorem v_rt_big {A B k : Nat} (hA : 1 ≤ A) (h : v_N A B k < (v_rt A B k + 1) * (v_rt A B k + 1)) : 2 ^ 48 ≤ v_rt A B k := by
  have hr := q_r_pos (B := B) (k := k) hA
  unfold v_N at h
  generalize v_rt A B k = x at *
  rcases Nat.lt_or_ge x (2 ^ 48) with q | q
  · have q1 := Nat.mul_le_mul (show x + 1 ≤ 2 ^ 48 by omega) (show x + 1 ≤ 2 ^ 48 by omega)
    have q2 : (2 : Nat) ^ 48 * 2 ^ 48 = 1 * 2 ^ 96 := by decide
    have q3 : 1 * 2 ^ 96 ≤ q_r A B k * 2 ^ 96 := Nat.mul_le_mul_right _ hr
    omega
  · exact q
theorem q_Yc {A B k : Nat} (pull : Bool) (hF : q_isF (q_r A B k) (q_Fv (q_r A B k))) (hA : 1 ≤ A) (hv : v_rok A B k = true) : -(2 * 10 ^ 220) ≤ q_Y pull A B k * q_TT pull - q_cc pull A B k * 10 ^ 220 ∧ q_Y pull A B k * q_TT pull - q_cc pull A B k * 10 ^ 220 ≤ 2 * 10 ^ 220 ∧ (pull = false → -281474976710656 < q_Y pull A B k * q_TT pull - q_cc pull A B k * 10 ^ 220 ∧ q_Y pull A B k * q_TT pull - q_cc pull A B k * 10 ^ 220 < 10 ^ 220) := by
  obtain ⟨r1, r2⟩ := v_rok_ok hv
  have hr := q_r_pos (B := B) (k := k) hA
  have hrA := q_r_A (B := B) (k := k) hA
  have p48 : (2 : Int) ^ 48 = 281474976710656 := by decide
  have big := q_big
  have e1 := q_sq220
  have hQ := n_pow_pos 220
  cases pull
  · have fl := v_F hF r1 r2
    rw [p48, Int.add_mul, Int.add_mul, Int.one_mul, Int.one_mul] at fl
    rw [q_Y_f, q_cc_f, show q_TT false = 281474976710656 from rfl]
    clear e1 r1 r2 hv hF
    revert fl big hQ
    generalize (10 : Int) ^ 220 = Q
    intro fl big hQ
    refine ⟨by omega, by omega, fun _ => ⟨by omega, by omega⟩⟩
  · have hl := v_rt_big hA r2
    obtain ⟨f0, f1, f2⟩ := hF
    rw [e1] at f1 f2
    rw [q_Y_t, q_cc_t, show q_TT true = 288230376151711744 from rfl]
    have fin := q_Yp (A := A) (r := q_r A B k) (l := v_rt A B k) (more := (v_N A B k - v_rt A B k * v_rt A B k) * 65536 / (2 * v_rt A B k)) (rest := v_N A B k - v_rt A B k * v_rt A B k) (N := v_N A B k) (pl := v_pl A B k) hQ big f0 f1 f2 hA hrA (by unfold v_N; rfl) (by omega) (by
      have : (v_rt A B k + 1) * (v_rt A B k + 1) = v_rt A B k * v_rt A B k + 2 * v_rt A B k + 1 := by grind
      omega) hl rfl (by unfold v_pl; rfl)
    exact ⟨fin.1, fin.2, fun q => absurd q (by decide)⟩
/-- a sum in the class's numbers -/
def q_fx (pull : Bool) (A B : Nat) (D : Nat → Int) : Int := D 0 * q_TT pull + (D 1 * q_cc pull A B 1 + D 2 * q_cc pull A B 2 + D 3 * q_cc pull A B 3 + D 4 * q_cc pull A B 4 + D 5 * q_cc pull A B 5)
def q_box (D : Nat → Int) : Prop := -30000 ≤ D 0 ∧ D 0 ≤ 30000 ∧ -10 ≤ D 1 ∧ D 1 ≤ 10 ∧ -8 ≤ D 2 ∧ D 2 ≤ 8 ∧ -6 ≤ D 3 ∧ D 3 ≤ 6 ∧ -4 ≤ D 4 ∧ D 4 ≤ 4 ∧ -2 ≤ D 5 ∧ D 5 ≤ 2
theorem q_bnd2 {x y b q : Int} (h1 : -b ≤ x) (h2 : x ≤ b) (h3 : -q ≤ y) (h4 : y ≤ q) (hb : 0 ≤ b) : -(b * q) ≤ x * y ∧ x * y ≤ b * q := by
  by_cases c : 0 ≤ y
  · exact q_bnd h1 h2 c h4 hb
  · have := q_bnd (x := x) (p := -y) (q := q) h1 h2 (by omega) (by omega) hb
    rw [Int.mul_neg] at this
    omega
/-- the reference's numbers lie by the class's -/
theorem q_near {A B : Nat} {D : Nat → Int} (pull : Bool) (hF : q_Fex A B) (hA : 1 ≤ A) (hv : ∀ k, 1 ≤ k → k < 6 → v_rok A B k = true) (hD : q_box D) : -(60 * 10 ^ 220) ≤ q_NN pull A B D * q_TT pull - q_fx pull A B D * 10 ^ 220 ∧ q_NN pull A B D * q_TT pull - q_fx pull A B D * 10 ^ 220 ≤ 60 * 10 ^ 220 := by
  obtain ⟨-, -, d1, d2, d3, d4, d5, d6, d7, d8, d9, d10⟩ := hD
  have y := fun k a b => q_Yc pull (hF k a b) hA (hv k a b)
  have y1 := y 1 (by decide) (by decide)
  have y2 := y 2 (by decide) (by decide)
  have y3 := y 3 (by decide) (by decide)
  have y4 := y 4 (by decide) (by decide)
  have y5 := y 5 (by decide) (by decide)
  have b1 := q_bnd2 (b := 10) (q := 2 * 10 ^ 220) d1 d2 y1.1 y1.2.1 (by decide)
  have b2 := q_bnd2 (b := 8) (q := 2 * 10 ^ 220) d3 d4 y2.1 y2.2.1 (by decide)
  have b3 := q_bnd2 (b := 6) (q := 2 * 10 ^ 220) d5 d6 y3.1 y3.2.1 (by decide)
  have b4 := q_bnd2 (b := 4) (q := 2 * 10 ^ 220) d7 d8 y4.1 y4.2.1 (by decide)
  have b5 := q_bnd2 (b := 2) (q := 2 * 10 ^ 220) d9 d10 y5.1 y5.2.1 (by decide)
  have e : q_NN pull A B D * q_TT pull - q_fx pull A B D * 10 ^ 220 = D 1 * (q_Y pull A B 1 * q_TT pull - q_cc pull A B 1 * 10 ^ 220) + D 2 * (q_Y pull A B 2 * q_TT pull - q_cc pull A B 2 * 10 ^ 220) + D 3 * (q_Y pull A B 3 * q_TT pull - q_cc pull A B 3 * 10 ^ 220) + D 4 * (q_Y pull A B 4 * q_TT pull - q_cc pull A B 4 * 10 ^ 220) + D 5 * (q_Y pull A B 5 * q_TT pull - q_cc pull A B 5 * 10 ^ 220) := by
    unfold q_NN q_fx
    generalize (10 : Int) ^ 220 = Q
    grind
  rw [e]
  generalize (10 : Int) ^ 220 = Q at *
  omega
theorem q_nearV {A B : Nat} {D : Nat → Int} (pull : Bool) (hF : q_Fex A B) (hA : 1 ≤ A) (hv : ∀ k, 1 ≤ k → k < 6 → v_rok A B k = true) (hD : q_box D) : -(60 * q_TT pull) ≤ q_vv pull A B D * q_TT pull - q_fx pull A B D * 1000000000000 ∧ q_vv pull A B D * q_TT pull - q_fx pull A B D * 1000000000000 ≤ 60 * q_TT pull := by
  obtain ⟨-, -, d1, d2, d3, d4, d5, d6, d7, d8, d9, d10⟩ := hD
  have hT : 2000000000000 ≤ q_TT pull := by cases pull <;> decide
  have key : ∀ k, 1 ≤ k → k < 6 → -(2 * q_TT pull) ≤ q_Y pull A B k / 10 ^ 208 * q_TT pull - q_cc pull A B k * 1000000000000 ∧ q_Y pull A B k / 10 ^ 208 * q_TT pull - q_cc pull A B k * 1000000000000 ≤ 2 * q_TT pull := by
    intro k a b
    have y := q_Yc pull (hF k a b) hA (hv k a b)
    have hH := n_pow_pos 208
    have e220 : (10 : Int) ^ 220 = 1000000000000 * 10 ^ 208 := by decide
    have m1 : q_Y pull A B k / 10 ^ 208 * 10 ^ 208 + q_Y pull A B k % 10 ^ 208 = q_Y pull A B k := by rw [Int.mul_comm]; exact Int.mul_ediv_add_emod _ _
    have m2 : 0 ≤ q_Y pull A B k % 10 ^ 208 := Int.emod_nonneg _ (by omega)
    have m3 : q_Y pull A B k % 10 ^ 208 < 10 ^ 208 := Int.emod_lt_of_pos _ hH
    rw [e220] at y
    generalize q_Y pull A B k / 10 ^ 208 = R at *
    generalize q_Y pull A B k % 10 ^ 208 = M at *
    generalize q_Y pull A B k = Y at *
    generalize (10 : Int) ^ 208 = H at *
    generalize q_TT pull = T at *
    generalize ((q_cc pull A B k : Nat) : Int) = c at *
    have e1 : Y * T = R * T * H + M * T := by rw [← m1]; grind
    have k1 : 0 ≤ M * T := Int.mul_nonneg m2 (by omega)
    have k2 : M * T ≤ H * T := Int.mul_le_mul_of_nonneg_right (Int.le_of_lt m3) (by omega)
    have k3 : (R * T - c * 1000000000000) * H ≤ (2 * T) * H := by
      have : 2000000000000 * H ≤ T * H := Int.mul_le_mul_of_nonneg_right hT (Int.le_of_lt hH)
      have e3 : (R * T - c * 1000000000000) * H = R * T * H - c * (1000000000000 * H) := by grind
      have e4 : 2 * T * H = 2 * (T * H) := by grind
      have k9 : 0 ≤ T * H := Int.mul_nonneg (by omega) (Int.le_of_lt hH)
      omega
    have k4 : -(2 * T) * H ≤ (R * T - c * 1000000000000) * H := by
      have : 2000000000000 * H ≤ T * H := Int.mul_le_mul_of_nonneg_right hT (Int.le_of_lt hH)
      have e3 : (R * T - c * 1000000000000) * H = R * T * H - c * (1000000000000 * H) := by grind
      have e4 : -(2 * T) * H = -2 * (T * H) := by grind
      have e5 : H * T = T * H := Int.mul_comm _ _
      omega
    exact ⟨Int.le_of_mul_le_mul_right k4 hH, Int.le_of_mul_le_mul_right k3 hH⟩
  have y1 := key 1 (by decide) (by decide)
  have y2 := key 2 (by decide) (by decide)
  have y3 := key 3 (by decide) (by decide)
  have y4 := key 4 (by decide) (by decide)
  have y5 := key 5 (by decide) (by decide)
  have b1 := q_bnd2 (b := 10) (q := 2 * q_TT pull) d1 d2 y1.1 y1.2 (by decide)
  have b2 := q_bnd2 (b := 8) (q := 2 * q_TT pull) d3 d4 y2.1 y2.2 (by decide)
  have b3 := q_bnd2 (b := 6) (q := 2 * q_TT pull) d5 d6 y3.1 y3.2 (by decide)
  have b4 := q_bnd2 (b := 4) (q := 2 * q_TT pull) d7 d8 y4.1 y4.2 (by decide)
  have b5 := q_bnd2 (b := 2) (q := 2 * q_TT pull) d9 d10 y5.1 y5.2 (by decide)
  have e : q_vv pull A B D * q_TT pull - q_fx pull A B D * 1000000000000 = D 1 * (q_Y pull A B 1 / 10 ^ 208 * q_TT pull - q_cc pull A B 1 * 1000000000000) + D 2 * (q_Y pull A B 2 / 10 ^ 208 * q_TT pull - q_cc pull A B 2 * 1000000000000) + D 3 * (q_Y pull A B 3 / 10 ^ 208 * q_TT pull - q_cc pull A B 3 * 1000000000000) + D 4 * (q_Y pull A B 4 / 10 ^ 208 * q_TT pull - q_cc pull A B 4 * 1000000000000) + D 5 * (q_Y pull A B 5 / 10 ^ 208 * q_TT pull - q_cc pull A B 5 * 1000000000000) := by
    unfold q_vv q_fx
    grind
  rw [e]
  generalize q_TT pull = T at *
  omega
