/-! ===== the reference: a root laid ===== -/
def q_sf : Nat → Nat → Nat → Nat → Nat × Nat
  | 0, _, f, p => (f, p)
  | k + 1, x, f, p => if x * x ≤ f then (if f % (x * x) = 0 then q_sf k x (f / (x * x)) (p * x) else q_sf k (x + 1) f p) else (f, p)
theorem q_sf_pos : ∀ (k x f p : Nat), 2 ≤ x → 1 ≤ f → 1 ≤ p → f * (p * p) < 1000000 → 1 ≤ (q_sf k x f p).1 ∧ 1 ≤ (q_sf k x f p).2 ∧ (q_sf k x f p).1 * ((q_sf k x f p).2 * (q_sf k x f p).2) = f * (p * p)
  | 0, _, _, _, _, h1, h2, _ => ⟨h1, h2, rfl⟩
  | k + 1, x, f, p, hx, h1, h2, h3 => by
    rw [q_sf]
    split
    · rename_i hc
      split
      · rename_i hd
        have hxx : 0 < x * x := Nat.mul_pos (by omega) (by omega)
        have e : f / (x * x) * (x * x) = f := Nat.div_mul_cancel (Nat.dvd_of_mod_eq_zero hd)
        have e2 : f / (x * x) * (p * x * (p * x)) = f * (p * p) := by
          rw [show p * x * (p * x) = x * x * (p * p) by grind, ← Nat.mul_assoc, e]
        have := q_sf_pos k x (f / (x * x)) (p * x) hx (Nat.div_pos hc hxx) (Nat.mul_pos h2 (by omega)) (by rw [e2]; exact h3)
        rw [e2] at this
        exact this
      · exact q_sf_pos k (x + 1) f p (by omega) h1 h2 h3
    · exact ⟨h1, h2, rfl⟩
section Lays
variable {sp : Nat → Nat} {ph : Bool} {d : Nat}
theorem s_203 {a r : Nat} {R : Int} {m : y_m} (ha : a < 90) (hr : r < 1000000) (hR : 0 ≤ R) (hR' : R + 1 ≤ 1000) (h1 : R * R ≤ r) (h2 : (r : Int) < (R + 1) * (R + 1)) (hd : q_dig (y_mI m a) 8) (hv : q_B10 (y_mI m a) 8 = R) :
    ∃ (m' : y_m) (F : Int), y_V sp ph (d + 2) 203 [y_bo 11 0 49, y_bi (r - R * R), y_bi R, y_bo 100 228 a] m = y_rV m' ∧ q_F (fun x _ => x = 90 ∨ x = 91 ∨ x = a) m m' ∧ 0 ≤ F ∧ F * F ≤ r * 100 ^ 220 ∧ (r : Int) * 100 ^ 220 < (F + 1) * (F + 1) ∧ q_dig (y_mI m' a) 228 ∧ q_B10 (y_mI m' a) 228 = F := by
  have q1 : (R + 1) * (R + 1) = R * R + 2 * R + 1 := by grind
  obtain ⟨m1, a1, a2, a3, a4⟩ := l_203a (sp := sp) (ph := ph) (d := d + 1) (a := a) (x := r - R * R) (y := R) 476 0 m (by omega)
  have z0 : ∀ c, c = 90 ∨ c = 91 → q_dig (y_mI m1 c) 476 := fun c hc i hi => by
    have := a3 i (by omega) hi
    rcases hc with rfl | rfl <;> omega
  obtain ⟨m2, b1, b2, b3, b4⟩ := l_203b (sp := sp) (ph := ph) (d := d + 1) (a := a) (x7 := 8) (X := r - R * R) (Y := 2 * R) (by omega) (by omega) (by omega) (by omega) 8 0 (r - R * R) (2 * R) m1 (by omega) (by omega) (by omega) (by omega) (by omega) (z0 90 (Or.inl rfl)) (z0 91 (Or.inr rfl)) a3 (by simp [q_L10]) (by simp [q_L10])
  have fa : ∀ i, y_mI m2 a i = y_mI m a i := fun i => by rw [q_F_I b2 a i (by omega), q_F_I a2 a i (by omega)]
  obtain ⟨m3, F, c1, c2, c3⟩ := l_203d (sp := sp) (ph := ph) (d := d) (a := a) (r := r) ha hr 220 8 R m2 (by omega) (by omega) hR (by omega) (by omega) (by omega) (by simpa using b3) b4 (fun i hi => by rw [fa]; exact hd i hi) (by rw [q_B10_congr (fun i _ => fa i)]; exact hv)
  refine ⟨m3, F, ?_, q_F_trans (q_F_trans (q_F_mono a2 (fun x k h => h.elim Or.inl (fun h => Or.inr (Or.inl h)))) (q_F_mono b2 (fun x k h => h.elim Or.inl (fun h => Or.inr (Or.inl h))))) c2, c3⟩
  simp only [y_C_203, y_E_203_0]
  have a1' : y_R sp ph (d + 1) 203 10 [some (y_bo 11 0 49), some (y_bi (r - R * R)), some (y_bi R), some (y_bo 100 228 a), some (y_bi (476 : Int)), some (y_bi 0), none, none, none, none] [] m = _ := a1
  have b1' : y_R sp ph (d + 1) 203 54 [some (y_bo 11 0 49), none, none, some (y_bo 100 228 a), none, some (y_bi (r - R * R)), some (y_bi (2 * R)), some (y_bi 8), some (y_bi 0), none] [] m1 = _ := b1
  rw [a1', y_E_203_39, b1', y_E_203_105]
  exact c1
theorem l_208a {a b : Nat} {A r : Int} (hab : b ≠ a) (hA : 0 ≤ A) (hA' : A ≤ 99) {f : Nat → Int} (hf : q_dig f 228) : ∀ (k : Nat) (i c : Int) (m : y_m), i + 1 = k → k ≤ 228 → 0 ≤ c → c ≤ 98 → (∀ j, j < 228 → y_mI m a j = f j) → (∀ j : Nat, i < j → j < 228 → 0 ≤ y_mI m b j ∧ y_mI m b j ≤ 9) → q_L10 (fun t => y_mI m b (227 - t)) (228 - k) + c * 10 ^ (228 - k) = A * q_L10 (fun t => f (227 - t)) (228 - k) →
    ∃ (m' : y_m) (c' : Int), y_R sp ph d 208 12 [some (y_bo 100 228 a), some (y_bi A), some (y_bi r), some (y_bo 100 228 b), some (y_bl 0), none, some (y_bi c), some (y_bi i), none] [] m = y_R sp ph d 208 50 [some (y_bo 100 228 a), none, some (y_bi r), some (y_bo 100 228 b), some (y_bl 0), none, none, none, none] [] m' ∧ q_F (fun x _ => x = b) m m' ∧ 0 ≤ c' ∧ q_dig (y_mI m' b) 228 ∧ q_L10 (fun t => y_mI m' b (227 - t)) 228 + c' * 10 ^ 228 = A * q_L10 (fun t => f (227 - t)) 228 := by
  intro k
  induction k with
  | zero =>
    intro i c m h hk hc hc' hfm hdm hv
    refine ⟨m, c, ?_, q_F_refl, hc, fun j hj => hdm j (by omega) hj, hv⟩
    rw [y_E_208_12]
    simp (disch := omega) only [z_w_id, if_pos, if_neg, e_g, e_bI, e_bV, e_bL, e_II, e_II', e_IJ, e_JI, e_JJ, e_JJ', reduceIte, not_true_eq_false, not_false_eq_true, true_or, or_true, true_and, and_true, e_nb0, e_gT]
  | succ k ih =>
    intro i c m h hk hc hc' hfm hdm hv
    have hi : i = (k : Int) := by omega
    subst hi
    have f1 := hf k (by omega)
    have e1 := hfm k (by omega)
    have m1 : 0 ≤ f k * A := Int.mul_nonneg f1.1 hA
    have m2 : f k * A ≤ 9 * 99 := Int.mul_le_mul f1.2 hA' hA (by decide)
    have s1 : 228 - k = 228 - (k + 1) + 1 := by omega
    have s2 : 227 - (228 - (k + 1)) = k := by omega
    obtain ⟨m', c', r1, r2, r3⟩ := ih ((k : Int) - 1) ((f k * A + c) / 10) (y_sI m b k ((f k * A + c) % 10)) (by omega) (by omega) (by omega) (by omega) (fun j hj => by rw [e_II' (by omega)]; exact hfm j hj) (fun j h1 h2 => by
      by_cases q : j = k
      · subst q; rw [e_II]; omega
      · rw [e_II' (by omega)]; exact hdm j (by omega) h2) (by
      rw [s1, q_L10, q_L10, s2, e_II, q_L10_congr (g := fun t => y_mI m b (227 - t)) (fun j hj => e_II' (by omega)), Int.mul_add, ← hv, Int.pow_succ]
      have e2 : (f k * A + c) / 10 * (10 ^ (228 - (k + 1)) * 10) = (f k * A + c) / 10 * 10 * 10 ^ (228 - (k + 1)) := by rw [Int.mul_comm (10 ^ _) 10, Int.mul_assoc]
      have e3 : (f k * A + c) % 10 = f k * A + c - (f k * A + c) / 10 * 10 := by omega
      have e4 : A * (f k * 10 ^ (228 - (k + 1))) = f k * A * 10 ^ (228 - (k + 1)) := by rw [← Int.mul_assoc, Int.mul_comm A]
      rw [e2, e3, e4, Int.sub_mul, Int.add_mul]
      omega)
    refine ⟨m', c', ?_, q_F_trans (q_F_sI rfl) r2, r3⟩
    rw [y_E_208_12]
    simp (disch := omega) only [z_w_id, if_pos, if_neg, e_g, e_bI, e_bV, e_bL, e_II, e_II', e_IJ, e_JI, e_JJ, e_JJ', reduceIte, not_true_eq_false, not_false_eq_true, true_or, or_true, true_and, and_true, e_nb0, e_gT, Int.toNat_natCast, e1, n_idiv, n_irem]
    exact r1
theorem l_208b {a b : Nat} {r : Nat} (hr : 0 < r) (hr' : r < 1000000) {f : Nat → Int} (hf : q_dig f 228) : ∀ (k i : Nat) (l : Int) (m : y_m), i + k = 228 → 0 ≤ l → l < r → (∀ j, i ≤ j → j < 228 → y_mI m b j = f j) → q_dig (y_mI m b) i → q_B10 (y_mI m b) i * r + l = q_B10 f i →
    ∃ m', y_R sp ph d 208 53 [some (y_bo 100 228 a), none, some (y_bi (r : Int)), some (y_bo 100 228 b), some (y_bl l), none, none, some (y_bi (i : Int)), none] [] m = y_rV m' ∧ q_F (fun x _ => x = b) m m' ∧ q_dig (y_mI m' b) 228 ∧ q_B10 (y_mI m' b) 228 = q_B10 f 228 / r := by
  intro k
  induction k with
  | zero =>
    intro i l m h hl hl' hfm hdm hv
    have : i = 228 := by omega
    subst this
    refine ⟨m, ?_, q_F_refl, hdm, ?_⟩
    · rw [y_E_208_53]
      simp (disch := omega) only [z_w_id, if_pos, if_neg, e_g, e_bI, e_bV, e_bL, e_II, e_II', e_IJ, e_JI, e_JJ, e_JJ', reduceIte, not_true_eq_false, not_false_eq_true, true_or, or_true, true_and, and_true, e_nb0, e_gT, y_E_208_97]
    · rw [← hv, Int.add_comm, Int.add_mul_ediv_right _ _ (by omega), Int.ediv_eq_zero_of_lt hl hl', Int.zero_add]
  | succ k ih =>
    intro i l m h hl hl' hfm hdm hv
    have f1 := hf i (by omega)
    have e1 := hfm i (by omega) (by omega)
    have hr2 : (0 : Int) < r := by omega
    have d1 : (10 * l + f i) / (r : Int) * r + (10 * l + f i) % r = 10 * l + f i := by rw [Int.mul_comm]; exact Int.mul_ediv_add_emod _ _
    have d2 : 0 ≤ (10 * l + f i) % (r : Int) := Int.emod_nonneg _ (by omega)
    have d3 : (10 * l + f i) % (r : Int) < r := Int.emod_lt_of_pos _ hr2
    have d4 : 0 ≤ (10 * l + f i) / (r : Int) := Int.ediv_nonneg (by omega) (by omega)
    have d5 : (10 * l + f i) / (r : Int) < 10 := Int.ediv_lt_of_lt_mul hr2 (by omega)
    obtain ⟨m', r1, r2, r3⟩ := ih (i + 1) ((10 * l + f i) % r) (y_sI m b i ((10 * l + f i) / r)) (by omega) d2 d3 (fun j h1 h2 => by rw [e_II' (by omega)]; exact hfm j (by omega) h2) (fun j hj => by
      by_cases q : j = i
      · subst q; rw [e_II]; omega
      · rw [e_II' (by omega)]; exact hdm j (by omega)) (by
      rw [q_B10, q_B10, e_II, q_B10_congr (g := y_mI m b) (fun j hj => e_II' (by omega)), ← hv, Int.add_mul, Int.mul_add, Int.mul_assoc]
      omega)
    refine ⟨m', ?_, q_F_trans (q_F_sI rfl) r2, r3⟩
    have n0 : z_wl (z_w (r : Int)) ≠ 0 := by rw [z_w_id (by omega) (by omega), z_wl_id (by omega) (by omega)]; omega
    rw [y_E_208_53]
    simp (disch := omega) only [z_w_id, if_pos, if_neg, e_g, e_bI, e_bV, e_bL, e_II, e_II', e_IJ, e_JI, e_JJ, e_JJ', reduceIte, not_true_eq_false, not_false_eq_true, true_or, or_true, true_and, and_true, e_nb0, e_gT, Int.toNat_natCast, e1, n_ldiv, n_lrem]
    rw [z_w_id (by omega) (by omega)] at n0
    rw [e_g n0, e_g n0]
    exact r1
theorem s_208 {a b A r : Nat} {m : y_m} {F : Int} (hab : b ≠ a) (hA' : A ≤ 99) (hr : 0 < r) (hr' : r < 1000000) (hd : q_dig (y_mI m a) 228) (hv : q_B10 (y_mI m a) 228 = F) (hs : A * F < 10 ^ 228) :
    ∃ m', y_V sp ph (d + 1) 208 [y_bo 100 228 a, y_bi (A : Int), y_bi (r : Int), y_bo 100 228 b] m = y_rV m' ∧ q_F (fun x _ => x = b) m m' ∧ q_dig (y_mI m' b) 228 ∧ q_B10 (y_mI m' b) 228 = A * F / r := by
  obtain ⟨m1, c, a1, a2, a3, a4, a5⟩ := l_208a (sp := sp) (ph := ph) (d := d) (a := a) (b := b) (A := A) (r := r) hab (by omega) (by omega) hd 228 227 0 m (by omega) (by omega) (by omega) (by omega) (fun _ _ => rfl) (fun j h1 h2 => absurd h1 (by omega)) (by simp [q_L10])
  have e1 := q_B10_rev (f := y_mI m a) 228
  have e2 := q_B10_rev (f := y_mI m1 b) 228
  have e1' : q_L10 (fun t => y_mI m a (227 - t)) 228 = F := by rw [← hv, ← e1]
  have e2' : q_L10 (fun t => y_mI m1 b (227 - t)) 228 = q_B10 (y_mI m1 b) 228 := e2
  rw [e1', e2'] at a5
  have l1 := q_L10_lt (f := fun t => y_mI m1 b (227 - t)) (n := 228) (fun i hi => a4 _ (by omega))
  rw [e2'] at l1
  have hc : c = 0 := by
    have hp := n_pow_pos 228
    rcases Int.lt_or_eq_of_le a3 with q | q
    · have := Int.mul_le_mul_of_nonneg_right (show 1 ≤ c by omega) (Int.le_of_lt hp)
      omega
    · exact q.symm
  subst hc
  obtain ⟨m2, b1, b2, b3, b4⟩ := l_208b (sp := sp) (ph := ph) (d := d) (a := a) (b := b) hr hr' a4 228 0 0 m1 (by omega) (by omega) (by omega) (fun _ _ _ => rfl) (fun i hi => absurd hi (Nat.not_lt_zero _)) (by simp [q_B10])
  rw [Int.zero_mul, Int.add_zero] at a5
  refine ⟨m2, ?_, q_F_trans a2 b2, b3, by rw [b4, a5]⟩
  simp only [y_C_208, y_E_208_0]
  have a1' : y_R sp ph d 208 12 [some (y_bo 100 228 a), some (y_bi (A : Int)), some (y_bi (r : Int)), some (y_bo 100 228 b), some (y_bl 0), none, some (y_bi 0), some (y_bi (((228 : Nat) : Int) - 1)), none] [] m = _ := a1
  rw [a1', y_E_208_50]
  exact b1
end Lays
