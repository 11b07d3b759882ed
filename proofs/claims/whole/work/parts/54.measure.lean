/-! ===== the class: roots measured ===== -/
/-- a pull by its root and sixteen bits more -/
def q_pl (A r root more : Nat) : Nat := A * (root / r) * 1024 + (A * (root % r) * 1024 + A * more / 64) / r
theorem n_lshr_nat {x y : Nat} (hx : x < 9223372036854775808) (hy : y < 64) : z_lshr x y = ((x / 2 ^ y : Nat) : Int) := by
  rw [n_lshr hy hx, Nat.shiftRight_eq_div_pow]
section Measure
variable {sp : Nat → Nat} {ph : Bool} {d : Nat}
/-- one step of the root: two more bits -/
theorem q_step {T rest root dg : Int} (h : root * root + rest = T) (h1 : rest ≤ 2 * root) (h2 : 0 ≤ dg) (h3 : dg ≤ 3) (h4 : 0 ≤ rest) :
    (rest * 4 + dg < root * 4 + 1 → (root * 2) * (root * 2) + (rest * 4 + dg) = 4 * T + dg ∧ rest * 4 + dg ≤ 2 * (root * 2)) ∧ (¬ rest * 4 + dg < root * 4 + 1 → (root * 2 + 1) * (root * 2 + 1) + (rest * 4 + dg - (root * 4 + 1)) = 4 * T + dg ∧ rest * 4 + dg - (root * 4 + 1) ≤ 2 * (root * 2 + 1)) := by
  have e1 : (root * 2) * (root * 2) = 4 * (root * root) := by grind
  have e2 : (root * 2 + 1) * (root * 2 + 1) = 4 * (root * root) + 4 * root + 1 := by grind
  refine ⟨fun c => ⟨?_, ?_⟩, fun c => ⟨?_, ?_⟩⟩ <;> omega
theorem l_50b {g : Nat} {A r : Int} : ∀ (k : Nat) (n : Nat) (root rest : Int), n + k = 48 → 0 ≤ root → root < 2 ^ (n + 10) → 0 ≤ rest → rest ≤ 2 * root → root * root + rest = r * 4 ^ n → ∀ m, ∃ root' rest' : Int, y_R sp ph d 50 10 [some (y_bo 4 0 3), some (y_bi (g : Int)), some (y_bl A), none, some (y_bl r), none, some (y_bl root), none, some (y_bl rest), none, some (y_bi (-1 - (n : Int))), none, none] [] m = y_R sp ph d 50 91 [some (y_bo 4 0 3), some (y_bi (g : Int)), some (y_bl A), none, some (y_bl r), none, some (y_bl root'), none, some (y_bl rest'), none, none, none, none] [] m ∧ 0 ≤ root' ∧ root' < 2 ^ 58 ∧ 0 ≤ rest' ∧ rest' ≤ 2 * root' ∧ root' * root' + rest' = r * 4 ^ 48 := by
  intro k
  induction k with
  | zero =>
    intro n root rest h h0 h1 h2 h3 h4 m
    have : n = 48 := by omega
    subst this
    refine ⟨root, rest, ?_, h0, h1, h2, h3, h4⟩
    rw [y_E_50_10]
    simp (disch := omega) only [z_w_id, if_pos, if_neg, e_g, e_bI, e_bV, e_bL, e_II, e_II', e_IJ, e_JI, e_JJ, e_JJ', reduceIte, not_true_eq_false, not_false_eq_true, true_or, or_true, true_and, and_true, e_nb0, e_gT]
  | succ k ih =>
    intro n root rest h h0 h1 h2 h3 h4 m
    have hp : (2 : Int) ^ (n + 10) ≤ 2 ^ 57 := by
      have := Nat.pow_le_pow_right (n := 2) (by decide) (show n + 10 ≤ 57 by omega)
      have e : (2 : Int) ^ (n + 10) = ((2 ^ (n + 10) : Nat) : Int) := by rw [Int.natCast_pow]; rfl
      rw [e]; exact Int.ofNat_le.mpr this
    have hp2 : (2 : Int) ^ 57 = 144115188075855872 := by decide
    have hT : r * 4 ^ (n + 1) = 4 * (r * 4 ^ n) + 0 := by rw [Int.pow_succ]; grind
    have hq : (2 : Int) ^ (n + 1 + 10) = 2 * 2 ^ (n + 10) := by rw [show n + 1 + 10 = n + 10 + 1 by omega, Int.pow_succ, Int.mul_comm]
    obtain ⟨s1, s2⟩ := q_step (dg := 0) h4 h3 (by decide) (by decide) h2
    by_cases c : rest * 4 + 0 < root * 4 + 1
    · obtain ⟨root', rest', g1, g2⟩ := ih (n + 1) (root * 2) (rest * 4 + 0) (by omega) (by omega) (by omega) (by omega) (s1 c).2 (by rw [hT]; exact (s1 c).1) m
      refine ⟨root', rest', ?_, g2⟩
      rw [y_E_50_10]
      simp (disch := omega) only [z_w_id, if_pos, if_neg, e_g, e_bI, e_bV, e_bL, e_II, e_II', e_IJ, e_JI, e_JJ, e_JJ', reduceIte, not_true_eq_false, not_false_eq_true, true_or, or_true, true_and, and_true, e_nb0, e_gT, y_E_50_52, y_E_50_53, n_lc_lt, y_E_50_85]
      rw [show -1 - (n : Int) + -1 = -1 - ((n + 1 : Nat) : Int) by omega]
      exact g1
    · obtain ⟨root', rest', g1, g2⟩ := ih (n + 1) (root * 2 + 1) (rest * 4 + 0 - (root * 4 + 1)) (by omega) (by omega) (by omega) (by omega) (s2 c).2 (by rw [hT]; exact (s2 c).1) m
      refine ⟨root', rest', ?_, g2⟩
      rw [y_E_50_10]
      simp (disch := omega) only [z_w_id, if_pos, if_neg, e_g, e_bI, e_bV, e_bL, e_II, e_II', e_IJ, e_JI, e_JJ, e_JJ', reduceIte, not_true_eq_false, not_false_eq_true, true_or, or_true, true_and, and_true, e_nb0, e_gT, y_E_50_52, y_E_50_53, n_lc_lt, y_E_50_85]
      rw [show -1 - (n : Int) + -1 = -1 - ((n + 1 : Nat) : Int) by omega]
      exact g1
theorem l_50a {g : Nat} {A : Int} {r : Nat} (hr : r < 262144) : ∀ (k : Nat) (n : Nat) (root rest : Int), n + k = 9 → 0 ≤ root → root < 2 ^ n → 0 ≤ rest → rest ≤ 2 * root → root * root + rest = ((r / 4 ^ (9 - n) : Nat) : Int) → ∀ m, ∃ root' rest' : Int, y_R sp ph d 50 10 [some (y_bo 4 0 3), some (y_bi (g : Int)), some (y_bl A), none, some (y_bl (r : Int)), none, some (y_bl root), none, some (y_bl rest), none, some (y_bi (8 - (n : Int))), none, none] [] m = y_R sp ph d 50 10 [some (y_bo 4 0 3), some (y_bi (g : Int)), some (y_bl A), none, some (y_bl (r : Int)), none, some (y_bl root'), none, some (y_bl rest'), none, some (y_bi (-1)), none, none] [] m ∧ 0 ≤ root' ∧ root' < 2 ^ 9 ∧ 0 ≤ rest' ∧ rest' ≤ 2 * root' ∧ root' * root' + rest' = r := by
  intro k
  induction k with
  | zero =>
    intro n root rest h h0 h1 h2 h3 h4 m
    have : n = 9 := by omega
    subst this
    refine ⟨root, rest, rfl, h0, h1, h2, h3, by rw [h4]; simp⟩
  | succ k ih =>
    intro n root rest h h0 h1 h2 h3 h4 m
    have hp : (2 : Int) ^ n ≤ 2 ^ 9 := by
      have := Nat.pow_le_pow_right (n := 2) (by decide) (show n ≤ 9 by omega)
      have e : (2 : Int) ^ n = ((2 ^ n : Nat) : Int) := by rw [Int.natCast_pow]; rfl
      rw [e]; exact Int.ofNat_le.mpr this
    have hp2 : (2 : Int) ^ 9 = 512 := by decide
    have hq : (2 : Int) ^ (n + 1) = 2 * 2 ^ n := by rw [Int.pow_succ, Int.mul_comm]
    have hT : r / 4 ^ (9 - (n + 1)) = 4 * (r / 4 ^ (9 - n)) + r / 4 ^ (8 - n) % 4 := by
      rw [show 9 - (n + 1) = 8 - n by omega, show 9 - n = 8 - n + 1 by omega, Nat.pow_succ, ← Nat.div_div_eq_div_mul]
      omega
    have hdg : z_land (z_lshr (r : Int) (2 * (8 - (n : Int)))) 3 = ((r / 4 ^ (8 - n) % 4 : Nat) : Int) := by
      have hl : r / 2 ^ (2 * (8 - n)) ≤ r := Nat.div_le_self _ _
      rw [show (2 : Int) * (8 - (n : Int)) = ((2 * (8 - n) : Nat) : Int) by omega, n_lshr_nat (by omega) (by omega), show (3 : Int) = ((2 ^ 2 - 1 : Nat) : Int) from rfl, n_land (by omega) (by decide), Nat.and_two_pow_sub_one_eq_mod, Nat.pow_mul]
    have hd4 : r / 4 ^ (8 - n) % 4 < 4 := Nat.mod_lt _ (by decide)
    generalize r / 4 ^ (8 - n) % 4 = dg at *
    obtain ⟨s1, s2⟩ := q_step (dg := dg) h4 h3 (by omega) (by omega) h2
    by_cases c : rest * 4 + dg < root * 4 + 1
    · obtain ⟨root', rest', g1, g2⟩ := ih (n + 1) (root * 2) (rest * 4 + dg) (by omega) (by omega) (by omega) (by omega) (s1 c).2 (by rw [hT, (s1 c).1]; omega) m
      refine ⟨root', rest', ?_, g2⟩
      rw [y_E_50_10]
      simp (disch := omega) only [z_w_id, if_pos, if_neg, e_g, e_bI, e_bV, e_bL, e_II, e_II', e_IJ, e_JI, e_JJ, e_JJ', reduceIte, not_true_eq_false, not_false_eq_true, true_or, or_true, true_and, and_true, e_nb0, e_gT, hdg, y_E_50_53, n_lc_lt, y_E_50_85]
      rw [show 8 - (n : Int) + -1 = 8 - ((n + 1 : Nat) : Int) by omega]
      exact g1
    · obtain ⟨root', rest', g1, g2⟩ := ih (n + 1) (root * 2 + 1) (rest * 4 + dg - (root * 4 + 1)) (by omega) (by omega) (by omega) (by omega) (s2 c).2 (by rw [hT, (s2 c).1]; omega) m
      refine ⟨root', rest', ?_, g2⟩
      rw [y_E_50_10]
      simp (disch := omega) only [z_w_id, if_pos, if_neg, e_g, e_bI, e_bV, e_bL, e_II, e_II', e_IJ, e_JI, e_JJ, e_JJ', reduceIte, not_true_eq_false, not_false_eq_true, true_or, or_true, true_and, and_true, e_nb0, e_gT, hdg, y_E_50_53, n_lc_lt, y_E_50_85]
      rw [show 8 - (n : Int) + -1 = 8 - ((n + 1 : Nat) : Int) by omega]
      exact g1
theorem q_no {root r : Nat} (h : root * (root + 2) = r * 2 ^ 96) (hr : 0 < r) (hb : root < 2 ^ 58) : False := by
  have cop : ∀ x : Nat, x % 2 = 1 → Nat.Coprime (2 ^ 94) x := by
    intro x hx
    refine Nat.Coprime.pow_left 94 ?_
    show Nat.gcd 2 x = 1
    rw [Nat.gcd_rec, hx]; rfl
  have e96 : (2 : Nat) ^ 96 = 4 * 2 ^ 94 := by decide
  have b57 : (2 : Nat) ^ 58 = 2 * 2 ^ 57 := by decide
  have b94 : (2 : Nat) ^ 57 < 2 ^ 94 := by decide
  rcases Nat.mod_two_eq_zero_or_one root with q | q
  · obtain ⟨s, rfl⟩ : ∃ s, root = 2 * s := ⟨root / 2, by omega⟩
    have h2 : s * (s + 1) = r * 2 ^ 94 := by
      have e1 : 2 * s * (2 * s + 2) = 4 * (s * (s + 1)) := by grind
      rw [e1, e96, show r * (4 * 2 ^ 94) = 4 * (r * 2 ^ 94) by grind] at h
      exact Nat.eq_of_mul_eq_mul_left (by decide) h
    have hd : 2 ^ 94 ∣ s * (s + 1) := ⟨r, by rw [h2, Nat.mul_comm]⟩
    have hp : 0 < r * 2 ^ 94 := Nat.mul_pos hr (by decide)
    have hs : s < 2 ^ 57 := by omega
    rcases Nat.mod_two_eq_zero_or_one s with q1 | q1
    · have := Nat.Coprime.dvd_of_dvd_mul_right (cop (s + 1) (by omega)) hd
      have hs0 : 0 < s := by
        rcases Nat.eq_zero_or_pos s with z | z
        · subst z; rw [Nat.zero_mul] at h2; omega
        · exact z
      have := Nat.le_of_dvd hs0 this
      omega
    · have := Nat.Coprime.dvd_of_dvd_mul_left (cop s q1) hd
      have := Nat.le_of_dvd (by omega) this
      omega
  · have e1 : (root * (root + 2)) % 2 = 1 := by rw [Nat.mul_mod, q, show (root + 2) % 2 = 1 by omega]
    rw [h, show r * 2 ^ 96 = 2 * (r * 2 ^ 95) by grind] at e1
    omega
theorem l_51 {A r : Int} {root : Int} (h0 : 0 < root) (h1 : root < 2 ^ 58) : ∀ (k : Nat) (n : Nat) (more left : Int) (rest : Int), n + k = 16 → 0 ≤ more → 0 ≤ left → left < 2 * root → more * (2 * root) + left = rest * 2 ^ n → ∀ m, ∃ more' left' : Int, y_R sp ph d 51 18 [some (y_bl root), none, none, none, some (y_bl A), none, some (y_bl r), none, some (y_bl more), none, some (y_bl left), none, some (y_bi (n : Int)), none, none] [] m = y_R sp ph d 51 74 [some (y_bl root), none, none, none, some (y_bl A), none, some (y_bl r), none, some (y_bl more'), none, none, none, none, none, none] [] m ∧ 0 ≤ more' ∧ 0 ≤ left' ∧ left' < 2 * root ∧ more' * (2 * root) + left' = rest * 2 ^ 16 := by
  have hp2 : (2 : Int) ^ 58 = 288230376151711744 := by decide
  intro k
  induction k with
  | zero =>
    intro n more left rest h g0 g2 g3 g4 m
    have : n = 16 := by omega
    subst this
    refine ⟨more, left, ?_, g0, g2, g3, g4⟩
    rw [y_E_51_18]
    simp (disch := omega) only [z_w_id, if_pos, if_neg, e_g, e_bI, e_bV, e_bL, e_II, e_II', e_IJ, e_JI, e_JJ, e_JJ', reduceIte, not_true_eq_false, not_false_eq_true, true_or, or_true, true_and, and_true, e_nb0, e_gT]
  | succ k ih =>
    intro n more left rest h g0 g2 g3 g4 m
    have hq : rest * 2 ^ (n + 1) = 2 * (rest * 2 ^ n) := by rw [Int.pow_succ]; grind
    by_cases c : left * 2 < 2 * root
    · obtain ⟨m', l', r1, r2⟩ := ih (n + 1) (more * 2) (left * 2) rest (by omega) (by omega) (by omega) c (by rw [hq, ← g4]; grind) m
      refine ⟨m', l', ?_, r2⟩
      rw [y_E_51_18]
      simp (disch := omega) only [z_w_id, if_pos, if_neg, e_g, e_bI, e_bV, e_bL, e_II, e_II', e_IJ, e_JI, e_JJ, e_JJ', reduceIte, not_true_eq_false, not_false_eq_true, true_or, or_true, true_and, and_true, e_nb0, e_gT, n_lc_lt, y_E_51_68]
      exact r1
    · obtain ⟨m', l', r1, r2⟩ := ih (n + 1) (more * 2 + 1) (left * 2 - 2 * root) rest (by omega) (by omega) (by omega) (by omega) (by rw [hq, ← g4]; grind) m
      refine ⟨m', l', ?_, r2⟩
      rw [y_E_51_18]
      simp (disch := omega) only [z_w_id, if_pos, if_neg, e_g, e_bI, e_bV, e_bL, e_II, e_II', e_IJ, e_JI, e_JJ, e_JJ', reduceIte, not_true_eq_false, not_false_eq_true, true_or, or_true, true_and, and_true, e_nb0, e_gT, n_lc_lt, y_E_51_68]
      exact r1
theorem s_51 {A r root rest : Nat} {m : y_m} (hA : A ≤ 99) (hr : 0 < r) (hr' : r < 262144) (h0 : 0 < root) (h1 : root < 2 ^ 58) (h2 : rest < 2 * root) (h3 : A * (root / r) ≤ 2 ^ 50) : y_V sp ph (d + 1) 51 [y_bl (root : Int), y_bl (rest : Int), y_bl (A : Int), y_bl (r : Int)] m = y_rL (q_pl A r root (rest * 65536 / (2 * root)) : Int) m := by
  have hp2 : (2 : Nat) ^ 58 = 288230376151711744 := by decide
  have hp3 : (2 : Nat) ^ 50 = 1125899906842624 := by decide
  obtain ⟨more, left, a1, a2, a3, a4, a5⟩ := l_51 (sp := sp) (ph := ph) (d := d) (A := A) (r := r) (root := root) (by omega) (by have : (2 : Int) ^ 58 = 288230376151711744 := (by decide); omega) 16 0 0 rest rest (by omega) (by omega) (by omega) (by omega) (by simp) m
  have a1' : y_R sp ph d 51 18 [some (y_bl (root : Int)), none, none, none, some (y_bl (A : Int)), none, some (y_bl (r : Int)), none, some (y_bl 0), none, some (y_bl (rest : Int)), none, some (y_bi 0), none, none] [] m = _ := a1
  obtain ⟨mo, rfl⟩ := Int.eq_ofNat_of_zero_le a2
  obtain ⟨le, rfl⟩ := Int.eq_ofNat_of_zero_le a3
  have a6 : mo * (2 * root) + le = rest * 65536 := by
    have e : (2 : Int) ^ 16 = 65536 := by decide
    rw [e] at a5
    have : ((mo * (2 * root) + le : Nat) : Int) = ((rest * 65536 : Nat) : Int) := by simp [Int.natCast_add, Int.natCast_mul]; exact a5
    exact Int.ofNat.inj this
  have a7 : rest * 65536 / (2 * root) = mo := by
    rw [← a6, Nat.mul_comm mo, Nat.mul_add_div (by omega), Nat.div_eq_of_lt (by omega)]; omega
  have a8 : mo < 65536 := by
    rw [← a7]; exact Nat.div_lt_of_lt_mul (by omega)
  have hmod : root % r < r := Nat.mod_lt _ hr
  have b1 : A * (root % r) ≤ 99 * 262144 := Nat.mul_le_mul hA (by omega)
  have b2 : A * mo ≤ 99 * 65536 := Nat.mul_le_mul hA (by omega)
  have e1 : z_ldiv (root : Int) (r : Int) = ((root / r : Nat) : Int) := by rw [n_ldiv (by omega) (by omega) (by omega) (by omega), Int.natCast_ediv]
  have e2 : z_lrem (root : Int) (r : Int) = ((root % r : Nat) : Int) := by rw [n_lrem (by omega) (by omega) (by omega) (by omega), Int.natCast_emod]
  have e3 : z_lshl ((A : Int) * ((root / r : Nat) : Int)) 10 = ((A * (root / r) * 1024 : Nat) : Int) := by
    rw [← Int.natCast_mul, show (10 : Int) = ((10 : Nat) : Int) from rfl, n_lshl (by decide) (by rw [Nat.shiftLeft_eq]; omega), Nat.shiftLeft_eq]
  have e4 : z_lshl ((A : Int) * ((root % r : Nat) : Int)) 10 = ((A * (root % r) * 1024 : Nat) : Int) := by
    rw [← Int.natCast_mul, show (10 : Int) = ((10 : Nat) : Int) from rfl, n_lshl (by decide) (by rw [Nat.shiftLeft_eq]; omega), Nat.shiftLeft_eq]
  have e5 : z_lshr ((A : Int) * ((mo : Nat) : Int)) (16 - 10) = ((A * mo / 64 : Nat) : Int) := by
    rw [← Int.natCast_mul, show (16 : Int) - 10 = ((6 : Nat) : Int) from rfl, n_lshr_nat (by omega) (by decide)]
  have e6 : z_ldiv ((A * (root % r) * 1024 : Nat) + (A * mo / 64 : Nat) : Int) (r : Int) = (((A * (root % r) * 1024 + A * mo / 64) / r : Nat) : Int) := by
    rw [← Int.natCast_add, n_ldiv (by omega) (by omega) (by omega) (by omega), Int.natCast_ediv]
  have n0 : z_wl (r : Int) ≠ 0 := by rw [z_wl_id (by omega) (by omega)]; omega
  simp (disch := omega) only [y_C_51, y_E_51_0, n_lc_ge, z_w_id, if_pos, if_neg, e_g, e_bI, e_bV, e_bL, e_II, e_II', e_IJ, e_JI, e_JJ, e_JJ', reduceIte, not_true_eq_false, not_false_eq_true, true_or, or_true, true_and, and_true, e_nb0, e_gT, y_E_51_9]
  rw [a1', y_E_51_74, e_g n0, e_g n0, e_g n0, e1, e2, e3, e4, e5]
  erw [e6]
  rw [a7, q_pl, ← Int.natCast_add]
/-- a root of the class: its length and its pull -/
def q_ms (m : y_m) (g A r : Nat) : Prop := ∃ root : Nat, root * root ≤ r * 2 ^ 96 ∧ r * 2 ^ 96 < (root + 1) * (root + 1) ∧ 0 < root ∧ r * 2 ^ 96 - root * root < 2 * root ∧ y_mJ m 4 g = root ∧ y_mJ m 5 g = q_pl A r root ((r * 2 ^ 96 - root * root) * 65536 / (2 * root))
theorem s_50 {g A r : Nat} {m : y_m} (hg : g < 6) (hA : A ≤ 99) (hr : 0 < r) (hr' : r < 262144) (hAr : A * A ≤ r) : ∃ m', y_V sp ph (d + 2) 50 [y_bo 4 0 3, y_bi (g : Int), y_bl (A : Int), y_bl (r : Int)] m = y_rV m' ∧ q_F (fun a j => (a = 4 ∨ a = 5) ∧ j = g) m m' ∧ q_ms m' g A r := by
  obtain ⟨root1, rest1, a1, a2, a3, a4, a5, a6⟩ := l_50a (sp := sp) (ph := ph) (d := d + 1) (g := g) (A := A) hr' 9 0 0 0 (by omega) (by decide) (by decide) (by decide) (by decide) (by
    rw [Nat.div_eq_of_lt (by have : (4 : Nat) ^ (9 - 0) = 262144 := (by decide); omega)]; rfl) m
  have a1' : y_R sp ph (d + 1) 50 10 [some (y_bo 4 0 3), some (y_bi (g : Int)), some (y_bl (A : Int)), none, some (y_bl (r : Int)), none, some (y_bl 0), none, some (y_bl 0), none, some (y_bi 8), none, none] [] m = _ := a1
  obtain ⟨root, rest, b1, b2, b3, b4, b5, b6⟩ := l_50b (sp := sp) (ph := ph) (d := d + 1) (g := g) (A := A) (r := r) 48 0 root1 rest1 (by omega) a2 (by have e1 : (2 : Int) ^ 9 = 512 := (by decide); have e2 : (2 : Int) ^ (0 + 10) = 1024 := (by decide); omega) a4 a5 (by rw [a6]; simp) m
  have b1' : y_R sp ph (d + 1) 50 10 [some (y_bo 4 0 3), some (y_bi (g : Int)), some (y_bl (A : Int)), none, some (y_bl (r : Int)), none, some (y_bl root1), none, some (y_bl rest1), none, some (y_bi (-1)), none, none] [] m = _ := b1
  obtain ⟨ro, rfl⟩ := Int.eq_ofNat_of_zero_le b2
  obtain ⟨re, rfl⟩ := Int.eq_ofNat_of_zero_le b4
  have b7 : ro * ro + re = r * 2 ^ 96 := by
    have e : (4 : Int) ^ 48 = ((2 ^ 96 : Nat) : Int) := by decide
    rw [e] at b6
    have : ((ro * ro + re : Nat) : Int) = ((r * 2 ^ 96 : Nat) : Int) := by rw [Int.natCast_add, Int.natCast_mul, Int.natCast_mul]; exact b6
    exact Int.ofNat.inj this
  have hb : ro < 2 ^ 58 := by
    have e : (2 : Int) ^ 58 = ((2 ^ 58 : Nat) : Int) := by decide
    rw [e] at b3; exact Int.ofNat_lt.mp b3
  have hre : re < 2 * ro := by
    rcases Nat.lt_or_eq_of_le (show re ≤ 2 * ro by omega) with q | q
    · exact q
    · exact (q_no (root := ro) (r := r) (by rw [← b7, q]; grind) hr hb).elim
  have h1 : ro * ro ≤ r * 2 ^ 96 := by omega
  have hAr2 : A * (ro / r) ≤ 2 ^ 50 := by
    have q1 : (A * ro) * (A * ro) ≤ (r * 2 ^ 48) * (r * 2 ^ 48) := by
      rw [show (A * ro) * (A * ro) = (A * A) * (ro * ro) by grind, show (r * 2 ^ 48) * (r * 2 ^ 48) = r * (r * 2 ^ 96) by grind]
      exact Nat.mul_le_mul hAr h1
    have q2 : A * ro ≤ r * 2 ^ 48 := by
      rcases Nat.lt_or_ge (r * 2 ^ 48) (A * ro) with z | z
      · have := Nat.mul_lt_mul'' z z; omega
      · exact z
    have q3 : A * (ro / r) ≤ A * ro / r := Nat.mul_div_le_mul_div_assoc _ _ _
    have q4 : A * ro / r ≤ 2 ^ 48 := Nat.div_le_of_le_mul q2
    have q5 : (2 : Nat) ^ 48 ≤ 2 ^ 50 := by decide
    omega
  have hro : 0 < ro := by omega
  refine ⟨y_sJ (y_sJ m 4 g ro) 5 g (q_pl A r ro (re * 65536 / (2 * ro))), ?_, q_F_trans (q_F_sJ ⟨Or.inl rfl, rfl⟩) (q_F_sJ ⟨Or.inr rfl, rfl⟩), ro, h1, ?_, hro, by omega, ?_, ?_⟩
  · simp only [y_C_50, y_E_50_0]
    rw [a1', b1', y_E_50_91]
    simp (disch := omega) only [z_w_id, if_pos, if_neg, e_g, e_bI, e_bV, e_bL, e_II, e_II', e_IJ, e_JI, e_JJ, e_JJ', reduceIte, not_true_eq_false, not_false_eq_true, true_or, or_true, true_and, and_true, e_nb0, e_gT, Int.toNat_natCast, s_10, s_51 hA hr hr' hro hb hre hAr2]
  · have : (ro + 1) * (ro + 1) = ro * ro + 2 * ro + 1 := by grind
    omega
  · simp (disch := omega) only [z_w_id, if_pos, if_neg, e_g, e_bI, e_bV, e_bL, e_II, e_II', e_IJ, e_JI, e_JJ, e_JJ', reduceIte, not_true_eq_false, not_false_eq_true, true_or, or_true, true_and, and_true, e_nb0, e_gT]
  · rw [e_JJ, show r * 2 ^ 96 - ro * ro = re by omega]
theorem q_ms_F {S : Nat → Nat → Prop} {m m' : y_m} {g A r : Nat} (h : q_ms m g A r) (hf : q_F S m m') (h1 : ¬ S 4 g) (h2 : ¬ S 5 g) : q_ms m' g A r := by
  obtain ⟨root, a1, a2, a3, a4, a5, a6⟩ := h
  exact ⟨root, a1, a2, a3, a4, by rw [q_F_J hf 4 g h1]; exact a5, by rw [q_F_J hf 5 g h2]; exact a6⟩
theorem l_49 {A B : Nat} (hA1 : 1 ≤ A) (hA' : A ≤ 99) (hB' : B ≤ 99) : ∀ (n i : Nat) (m : y_m), i + n = 6 → y_mI m 3 2 = B → (∀ g, g < i → q_ms m g A (A * A + g * g * B * B)) → ∃ m', y_R sp ph (d + 2) 49 7 [some (y_bo 4 0 3), some (y_bi (A : Int)), none, some (y_bi (i : Int)), none, none] [] m = y_rV m' ∧ q_F (fun a _ => a = 4 ∨ a = 5) m m' ∧ ∀ g, g < 6 → q_ms m' g A (A * A + g * g * B * B) := by
  intro n
  induction n with
  | zero =>
    intro i m h hB hk
    refine ⟨m, ?_, q_F_refl, fun g b => hk g (by omega)⟩
    rw [y_E_49_7]
    simp (disch := omega) only [z_w_id, if_pos, if_neg, e_g, e_bI, e_bV, e_bL, e_II, e_II', e_IJ, e_JI, e_JJ, e_JJ', reduceIte, not_true_eq_false, not_false_eq_true, true_or, or_true, true_and, and_true, e_nb0, e_gT, y_E_49_47]
  | succ n ih =>
    intro i m h hB hk
    have h1 : A * A ≤ 99 * 99 := Nat.mul_le_mul hA' hA'
    have h2 : i * i ≤ 5 * 5 := Nat.mul_le_mul (by omega) (by omega)
    have h3 : i * i * B ≤ 5 * 5 * 99 := Nat.mul_le_mul h2 hB'
    have h4 : i * i * B * B ≤ 5 * 5 * 99 * 99 := Nat.mul_le_mul h3 hB'
    have h5 : 0 < A * A := Nat.mul_pos hA1 hA1
    obtain ⟨m1, r1, r2, r3⟩ := s_50 (sp := sp) (ph := ph) (d := d) (g := i) (A := A) (r := A * A + i * i * B * B) (m := m) (by omega) hA' (by omega) (by omega) (by omega)
    obtain ⟨m', s1, s2, s3⟩ := ih (i + 1) m1 (by omega) (by rw [q_F_I r2 3 2 (by omega)]; exact hB) (fun g hg => by
      by_cases c : g = i
      · subst c; exact r3
      · exact q_ms_F (hk g (by omega)) r2 (by omega) (by omega))
    refine ⟨m', ?_, q_F_trans (q_F_mono r2 (fun a j h => h.1)) s2, s3⟩
    have er : (A : Int) * A + (i : Int) * B * ((i : Int) * B) = ((A * A + i * i * B * B : Nat) : Int) := by
      rw [Int.natCast_add, Int.natCast_mul, Int.natCast_mul, Int.natCast_mul, Int.natCast_mul]; grind
    rw [y_E_49_7]
    simp (disch := omega) only [z_w_id, if_pos, if_neg, e_g, e_bI, e_bV, e_bL, e_II, e_II', e_IJ, e_JI, e_JJ, e_JJ', reduceIte, not_true_eq_false, not_false_eq_true, true_or, or_true, true_and, and_true, e_nb0, e_gT, hB]
    rw [er, r1]
    simp only [e_bV]
    exact s1
theorem s_49 {A B : Nat} {m : y_m} (hA1 : 1 ≤ A) (hA' : A ≤ 99) (hB' : B ≤ 99) : ∃ m', y_V sp ph (d + 3) 49 [y_bo 4 0 3, y_bi (A : Int), y_bi (B : Int)] m = y_rV m' ∧ q_F (fun a j => a = 4 ∨ a = 5 ∨ (a = 3 ∧ j = 2)) m m' ∧ y_mI m' 3 2 = B ∧ ∀ g, g < 6 → q_ms m' g A (A * A + g * g * B * B) := by
  obtain ⟨m', a1, a2, a3⟩ := l_49 (sp := sp) (ph := ph) (d := d) (A := A) (B := B) hA1 hA' hB' 6 0 (y_sI m 3 2 B) (by omega) e_II (fun g h => absurd h (Nat.not_lt_zero _))
  refine ⟨m', ?_, q_F_trans (q_F_sI (Or.inr (Or.inr ⟨rfl, rfl⟩))) (q_F_mono a2 (fun a j h => h.elim Or.inl (fun h => Or.inr (Or.inl h)))), ?_, a3⟩
  · simp only [y_C_49, y_E_49_0]
    exact a1
  · rw [q_F_I a2 3 2 (by omega), e_II]
end Measure
