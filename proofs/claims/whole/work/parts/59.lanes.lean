/-! ===== many numbers in one: lanes ===== -/
def v_pack (w : Nat) (f : Nat → Nat) : Nat → Nat
  | 0 => 0
  | n + 1 => v_pack w f n + f n * 2 ^ (w * n)
theorem v_pack_lt {w : Nat} {f : Nat → Nat} : ∀ {n : Nat}, (∀ i, i < n → f i < 2 ^ w) → v_pack w f n < 2 ^ (w * n)
  | 0, _ => by rw [v_pack, Nat.mul_zero]; decide
  | n + 1, h => by
    have ih := v_pack_lt (n := n) (fun i hi => h i (by omega))
    have h1 := h n (by omega)
    have h2 : (f n + 1) * 2 ^ (w * n) ≤ 2 ^ w * 2 ^ (w * n) := Nat.mul_le_mul_right _ h1
    rw [Nat.add_mul, Nat.one_mul] at h2
    rw [v_pack, Nat.mul_succ, Nat.pow_add, Nat.mul_comm (2 ^ (w * n))]
    omega
theorem v_pack_bit {w : Nat} (hw : 0 < w) {f : Nat → Nat} : ∀ {n : Nat}, (∀ i, i < n → f i < 2 ^ w) → ∀ j, (v_pack w f n).testBit j = (decide (j / w < n) && (f (j / w)).testBit (j % w))
  | 0, _, j => by simp [v_pack]
  | n + 1, h, j => by
    have hl := v_pack_lt (n := n) (fun i hi => h i (by omega))
    have ih := v_pack_bit hw (n := n) (fun i hi => h i (by omega)) j
    rw [v_pack, Nat.add_comm, Nat.mul_comm (f n), Nat.testBit_two_pow_mul_add _ hl]
    by_cases c : j < w * n
    · have c2 : j / w < n := Nat.div_lt_of_lt_mul c
      rw [if_pos c, ih, decide_eq_true c2, decide_eq_true (by omega)]
    · rw [if_neg c]
      have c3 : n ≤ j / w := (Nat.le_div_iff_mul_le hw).mpr (by rw [Nat.mul_comm]; omega)
      by_cases c4 : j / w = n
      · have e : j - w * n = j % w := by
          have := Nat.div_add_mod j w
          rw [c4] at this
          omega
        rw [e, c4, decide_eq_true (by omega), Bool.true_and]
      · have c5 : w * n + w ≤ j := by
          have : n + 1 ≤ j / w := by omega
          have := (Nat.le_div_iff_mul_le hw).mp this
          rw [Nat.add_mul, Nat.one_mul, Nat.mul_comm] at this
          exact this
        rw [decide_eq_false (by omega), Bool.false_and]
        exact Nat.testBit_lt_two_pow (Nat.lt_of_lt_of_le (h n (by omega)) (Nat.pow_le_pow_right (by decide) (by omega)))
theorem v_pack_add {w : Nat} {f g : Nat → Nat} : ∀ {n : Nat}, v_pack w f n + v_pack w g n = v_pack w (fun i => f i + g i) n
  | 0 => rfl
  | n + 1 => by rw [v_pack, v_pack, v_pack, ← v_pack_add (n := n), Nat.add_mul]; omega
theorem v_pack_mul {w c : Nat} {f : Nat → Nat} : ∀ {n : Nat}, c * v_pack w f n = v_pack w (fun i => c * f i) n
  | 0 => rfl
  | n + 1 => by rw [v_pack, v_pack, ← v_pack_mul (n := n), Nat.mul_add, Nat.mul_assoc]
theorem v_pack_congr {w : Nat} {f g : Nat → Nat} : ∀ {n : Nat}, (∀ i, i < n → f i = g i) → v_pack w f n = v_pack w g n
  | 0, _ => rfl
  | n + 1, h => by rw [v_pack, v_pack, v_pack_congr (n := n) (fun i hi => h i (by omega)), h n (by omega)]
theorem v_pack_and {w : Nat} (hw : 0 < w) {f g : Nat → Nat} {n : Nat} (hf : ∀ i, i < n → f i < 2 ^ w) (hg : ∀ i, i < n → g i < 2 ^ w) : v_pack w f n &&& v_pack w g n = v_pack w (fun i => f i &&& g i) n := by
  refine Nat.eq_of_testBit_eq fun j => ?_
  rw [Nat.testBit_and, v_pack_bit hw hf, v_pack_bit hw hg, v_pack_bit hw (fun i hi => Nat.lt_of_le_of_lt Nat.and_le_left (hf i hi)), Nat.testBit_and]
  cases decide (j / w < n) <;> simp
theorem v_pack_split {w a : Nat} {f : Nat → Nat} : ∀ {b : Nat}, v_pack w f (a * b) = v_pack (w * a) (fun j => v_pack w (fun i => f (a * j + i)) a) b
  | 0 => rfl
  | b + 1 => by
    have key : ∀ c, v_pack w f (a * b + c) = v_pack w f (a * b) + v_pack w (fun i => f (a * b + i)) c * 2 ^ (w * a * b) := by
      intro c
      induction c with
      | zero => rw [Nat.add_zero, v_pack, Nat.zero_mul, Nat.add_zero]
      | succ c ih => rw [← Nat.add_assoc, v_pack, ih, v_pack, Nat.add_mul, Nat.mul_add w, Nat.pow_add, Nat.mul_assoc w a b]; grind
    rw [Nat.mul_succ, key, v_pack_split (b := b), v_pack]
def v_rep (n W : Nat) : Nat := (2 ^ (W * n) - 1) / (2 ^ W - 1)
theorem v_rep_ok {n W : Nat} (hW : 0 < W) : v_rep n W = v_pack W (fun _ => 1) n := by
  have key : ∀ n, (2 ^ W - 1) * v_pack W (fun _ => 1) n = 2 ^ (W * n) - 1 := by
    intro n
    induction n with
    | zero => simp [v_pack]
    | succ n ih =>
      have p1 : 0 < 2 ^ (W * n) := Nat.pow_pos (by decide)
      have p2 : 0 < 2 ^ W := Nat.pow_pos (by decide)
      rw [v_pack, Nat.mul_add, ih, Nat.one_mul, Nat.mul_succ, Nat.pow_add, Nat.sub_mul, Nat.one_mul, Nat.mul_comm (2 ^ W)]
      have : 2 ^ (W * n) * 1 ≤ 2 ^ (W * n) * 2 ^ W := Nat.mul_le_mul_left _ p2
      omega
  have p3 : 2 ^ 1 ≤ 2 ^ W := Nat.pow_le_pow_right (by decide) hW
  unfold v_rep
  rw [← key n, Nat.mul_div_cancel_left _ (by omega)]
def v_rmp (W : Nat) : Nat → Nat
  | 0 => 0
  | n + 1 => v_rmp W n + n * 2 ^ (W * n)
theorem v_rmp_ok {W : Nat} : ∀ n, v_rmp W n = v_pack W (fun i => i) n
  | 0 => rfl
  | n + 1 => by rw [v_rmp, v_pack, v_rmp_ok n]
/-- the k-th digit of all indices: stride s, base d, c blocks -/
def v_dig (w s d c : Nat) : Nat := v_rep s w * (v_rmp (w * s) d * v_rep c (w * (s * d)))
theorem v_dig_ok {w s d c : Nat} (hw : 0 < w) (hs : 0 < s) (hd : 0 < d) : v_dig w s d c = v_pack w (fun i => i / s % d) (s * d * c) := by
  have hsd : 0 < s * d := Nat.mul_pos hs hd
  rw [v_pack_split (a := s * d)]
  have e1 : ∀ j, v_pack w (fun i => (s * d * j + i) / s % d) (s * d) = v_rep s w * v_rmp (w * s) d := by
    intro j
    rw [v_rep_ok hw, v_rmp_ok, v_pack_split (a := s)]
    rw [v_pack_mul]
    refine v_pack_congr fun q hq => ?_
    have e2 : v_pack w (fun i => (s * d * j + (s * q + i)) / s % d) s = v_pack w (fun _ => q) s := by
      refine v_pack_congr fun i hi => ?_
      have e3 : (s * d * j + (s * q + i)) / s = d * j + q := by
        rw [show s * d * j + (s * q + i) = s * (d * j + q) + i by rw [Nat.mul_add, Nat.mul_assoc]; omega, Nat.mul_add_div hs, Nat.div_eq_of_lt hi, Nat.add_zero]
      show (s * d * j + (s * q + i)) / s % d = q
      rw [e3, Nat.mul_add_mod, Nat.mod_eq_of_lt hq]
    rw [e2, Nat.mul_comm, v_pack_mul]
    exact v_pack_congr fun i _ => (Nat.mul_one q).symm
  unfold v_dig
  rw [v_rep_ok (Nat.mul_pos hw hsd), ← Nat.mul_assoc, v_pack_mul]
  refine v_pack_congr fun j _ => ?_
  rw [e1, Nat.mul_one]
/-- all lanes whose number is in the window are good -/
def v_hits (w : Nat) (good : Nat → Bool) : Nat → Nat → Nat → Bool
  | 0, b, H => Nat.beq H 0 || good b
  | k + 1, b, H => if Nat.beq H 0 = true then true else v_hits w good k b (H &&& (2 ^ (w * 2 ^ k) - 1)) && v_hits w good k (b + 2 ^ k) (H >>> (w * 2 ^ k))
theorem v_hits_ok {w : Nat} (hw : 0 < w) {good : Nat → Bool} : ∀ (k b H : Nat), v_hits w good k b H = true → ∀ j, j < w * 2 ^ k → H.testBit j = true → good (b + j / w) = true
  | 0, b, H, h, j, hk, hj => by
    rw [v_hits, Bool.or_eq_true] at h
    rcases h with h | h
    · rw [Nat.eq_of_beq_eq_true h, Nat.zero_testBit] at hj
      cases hj
    · rw [Nat.div_eq_of_lt (by simpa using hk), Nat.add_zero]; exact h
  | k + 1, b, H, h, j, hk, hj => by
    rw [v_hits] at h
    by_cases c : Nat.beq H 0 = true
    · rw [Nat.eq_of_beq_eq_true c, Nat.zero_testBit] at hj
      cases hj
    · rw [if_neg c, Bool.and_eq_true] at h
      have e2 : w * 2 ^ (k + 1) = w * 2 ^ k + w * 2 ^ k := by rw [Nat.pow_succ]; grind
      by_cases q : j < w * 2 ^ k
      · refine v_hits_ok hw k _ _ h.1 j q ?_
        rw [Nat.testBit_and, hj, Nat.testBit_two_pow_sub_one, decide_eq_true q]; rfl
      · have := v_hits_ok hw k _ _ h.2 (j - w * 2 ^ k) (by omega) (by rw [Nat.testBit_shiftRight, show w * 2 ^ k + (j - w * 2 ^ k) = j by omega]; exact hj)
        have e : j / w = 2 ^ k + (j - w * 2 ^ k) / w := by
          have : j = w * 2 ^ k + (j - w * 2 ^ k) := by omega
          rw [this, Nat.mul_add_div hw, Nat.add_sub_cancel_left]
        rw [e, ← Nat.add_assoc]; exact this
def v_dn (d1 d2 d3 d4 d5 : Nat) : Nat := d1 * d2 * d3 * d4 * d5
def v_lane (d1 d2 d3 d4 l1 l2 l3 l4 l5 off i : Nat) (d5 : Nat) : Nat := l1 * (i / 1 % d1) + l2 * (i / d1 % d2) + l3 * (i / (d1 * d2) % d3) + l4 * (i / (d1 * d2 * d3) % d4) + l5 * (i / (d1 * d2 * d3 * d4) % d5) + off
def v_vec (w d1 d2 d3 d4 d5 l1 l2 l3 l4 l5 off : Nat) : Nat :=
  l1 * v_dig w 1 d1 (d2 * d3 * d4 * d5) + l2 * v_dig w d1 d2 (d3 * d4 * d5) + l3 * v_dig w (d1 * d2) d3 (d4 * d5) + l4 * v_dig w (d1 * d2 * d3) d4 d5 + l5 * v_dig w (d1 * d2 * d3 * d4) d5 1 + off * v_rep (v_dn d1 d2 d3 d4 d5) w
theorem v_vec_ok {w d1 d2 d3 d4 d5 l1 l2 l3 l4 l5 off : Nat} (hw : 0 < w) (h1 : 0 < d1) (h2 : 0 < d2) (h3 : 0 < d3) (h4 : 0 < d4) (h5 : 0 < d5) : v_vec w d1 d2 d3 d4 d5 l1 l2 l3 l4 l5 off = v_pack w (fun i => v_lane d1 d2 d3 d4 l1 l2 l3 l4 l5 off i d5) (v_dn d1 d2 d3 d4 d5) := by
  have p12 := Nat.mul_pos h1 h2
  have p123 := Nat.mul_pos p12 h3
  have p1234 := Nat.mul_pos p123 h4
  unfold v_vec
  rw [v_dig_ok hw (by decide) h1, v_dig_ok hw h1 h2, v_dig_ok hw p12 h3, v_dig_ok hw p123 h4, v_dig_ok hw p1234 h5, v_rep_ok hw]
  rw [show 1 * d1 * (d2 * d3 * d4 * d5) = v_dn d1 d2 d3 d4 d5 by unfold v_dn; grind, show d1 * d2 * (d3 * d4 * d5) = v_dn d1 d2 d3 d4 d5 by unfold v_dn; grind, show d1 * d2 * d3 * (d4 * d5) = v_dn d1 d2 d3 d4 d5 by unfold v_dn; grind, show d1 * d2 * d3 * d4 * d5 * 1 = v_dn d1 d2 d3 d4 d5 by unfold v_dn; grind]
  rw [show d1 * d2 * d3 * d4 * d5 = v_dn d1 d2 d3 d4 d5 from rfl]
  rw [v_pack_mul, v_pack_mul, v_pack_mul, v_pack_mul, v_pack_mul, v_pack_mul, v_pack_add, v_pack_add, v_pack_add, v_pack_add, v_pack_add]
  refine v_pack_congr fun i _ => ?_
  unfold v_lane
  rw [Nat.mul_one]
def v_chk (w t d1 d2 d3 d4 d5 l1 l2 l3 l4 l5 off win : Nat) (good : Nat → Bool) : Bool :=
  v_hits w good 18 0 (((((v_vec w d1 d2 d3 d4 d5 l1 l2 l3 l4 l5 off) &&& ((2 ^ t - 1) * v_rep (v_dn d1 d2 d3 d4 d5) w)) + (2 ^ t - 1 - win) * v_rep (v_dn d1 d2 d3 d4 d5) w) &&& (2 ^ t * v_rep (v_dn d1 d2 d3 d4 d5) w)) ^^^ (2 ^ t * v_rep (v_dn d1 d2 d3 d4 d5) w))
theorem v_digits {d1 d2 d3 d4 m1 m2 m3 m4 m5 d5 : Nat} (h1 : m1 < d1) (h2 : m2 < d2) (h3 : m3 < d3) (h4 : m4 < d4) (h5 : m5 < d5) : m1 + d1 * (m2 + d2 * (m3 + d3 * (m4 + d4 * m5))) < v_dn d1 d2 d3 d4 d5 ∧ (m1 + d1 * (m2 + d2 * (m3 + d3 * (m4 + d4 * m5)))) / 1 % d1 = m1 ∧ (m1 + d1 * (m2 + d2 * (m3 + d3 * (m4 + d4 * m5)))) / d1 % d2 = m2 ∧ (m1 + d1 * (m2 + d2 * (m3 + d3 * (m4 + d4 * m5)))) / (d1 * d2) % d3 = m3 ∧ (m1 + d1 * (m2 + d2 * (m3 + d3 * (m4 + d4 * m5)))) / (d1 * d2 * d3) % d4 = m4 ∧ (m1 + d1 * (m2 + d2 * (m3 + d3 * (m4 + d4 * m5)))) / (d1 * d2 * d3 * d4) % d5 = m5 := by
  have q : ∀ {a d r : Nat}, a < d → (a + d * r) / d = r := fun {a d r} h => by rw [Nat.add_mul_div_left _ _ (by omega), Nat.div_eq_of_lt h, Nat.zero_add]
  have e : ∀ {a d r : Nat}, a < d → (a + d * r) % d = a := fun {a d r} h => by rw [Nat.add_mul_mod_self_left, Nat.mod_eq_of_lt h]
  have lt : ∀ {a d r n : Nat}, a < d → r < n → a + d * r < d * n := fun {a d r n} h1 h2 => by
    have : d * (r + 1) ≤ d * n := Nat.mul_le_mul_left d h2
    rw [Nat.mul_succ] at this
    omega
  refine ⟨?_, ?_, ?_, ?_, ?_, ?_⟩
  · have := lt h1 (lt h2 (lt h3 (lt h4 h5)))
    unfold v_dn
    rw [Nat.mul_assoc, Nat.mul_assoc, Nat.mul_assoc]; exact this
  · rw [Nat.div_one, e h1]
  · rw [q h1, e h2]
  · rw [← Nat.div_div_eq_div_mul, q h1, q h2, e h3]
  · rw [← Nat.div_div_eq_div_mul, ← Nat.div_div_eq_div_mul, q h1, q h2, q h3, e h4]
  · rw [← Nat.div_div_eq_div_mul, ← Nat.div_div_eq_div_mul, ← Nat.div_div_eq_div_mul, q h1, q h2, q h3, q h4, Nat.mod_eq_of_lt h5]
theorem v_chk_ok {w t d1 d2 d3 d4 d5 l1 l2 l3 l4 l5 off win : Nat} {good : Nat → Bool} (h : v_chk w t d1 d2 d3 d4 d5 l1 l2 l3 l4 l5 off win good = true) (hn : v_dn d1 d2 d3 d4 d5 ≤ 2 ^ 18) (htw : t + 1 ≤ w) (hwin : win < 2 ^ t) (hl : ∀ i, v_lane d1 d2 d3 d4 l1 l2 l3 l4 l5 off i d5 < 2 ^ w) {m1 m2 m3 m4 m5 : Nat} (h1 : m1 < d1) (h2 : m2 < d2) (h3 : m3 < d3) (h4 : m4 < d4) (h5 : m5 < d5) (hit : (l1 * m1 + l2 * m2 + l3 * m3 + l4 * m4 + l5 * m5 + off) % 2 ^ t ≤ win) : good (m1 + d1 * (m2 + d2 * (m3 + d3 * (m4 + d4 * m5)))) = true := by
  have hw : 0 < w := by omega
  obtain ⟨g0, g1, g2, g3, g4, g5⟩ := v_digits (d5 := d5) h1 h2 h3 h4 h5
  generalize hi : m1 + d1 * (m2 + d2 * (m3 + d3 * (m4 + d4 * m5))) = i at *
  have p1 : 0 < 2 ^ t := Nat.pow_pos (by decide)
  have p2 : 2 ^ t * 2 ≤ 2 ^ w := by rw [← Nat.pow_succ]; exact Nat.pow_le_pow_right (by decide) htw
  have hlane : v_lane d1 d2 d3 d4 l1 l2 l3 l4 l5 off i d5 = l1 * m1 + l2 * m2 + l3 * m3 + l4 * m4 + l5 * m5 + off := by
    unfold v_lane; rw [g1, g2, g3, g4, g5]
  unfold v_chk at h
  rw [v_vec_ok hw (by omega) (by omega) (by omega) (by omega) (by omega), v_rep_ok hw, v_pack_mul, v_pack_mul, v_pack_mul, v_pack_and hw (fun i _ => hl i) (fun i _ => by rw [Nat.mul_one]; omega), v_pack_add] at h
  have hu : ∀ i, (v_lane d1 d2 d3 d4 l1 l2 l3 l4 l5 off i d5 &&& (2 ^ t - 1) * 1) + (2 ^ t - 1 - win) * 1 < 2 ^ w := fun i => by
    rw [Nat.mul_one, Nat.mul_one, Nat.and_two_pow_sub_one_eq_mod]
    have := Nat.mod_lt (v_lane d1 d2 d3 d4 l1 l2 l3 l4 l5 off i d5) p1
    omega
  have hc : ∀ i, i < v_dn d1 d2 d3 d4 d5 → (fun _ => 2 ^ t * 1) i < 2 ^ w := fun i _ => by show 2 ^ t * 1 < 2 ^ w; omega
  rw [v_pack_and hw (fun i _ => hu i) hc] at h
  have hb := v_hits_ok hw _ _ _ h (w * i + t) (by
    have : w * (i + 1) ≤ w * 2 ^ 18 := Nat.mul_le_mul_left w (by omega)
    rw [Nat.mul_succ] at this
    omega) ?_
  · rw [Nat.zero_add, show (w * i + t) / w = i by rw [Nat.mul_add_div hw, Nat.div_eq_of_lt (by omega), Nat.add_zero]] at hb
    exact hb
  · have ej : (w * i + t) / w = i := by rw [Nat.mul_add_div hw, Nat.div_eq_of_lt (by omega), Nat.add_zero]
    have em : (w * i + t) % w = t := by rw [Nat.mul_add_mod, Nat.mod_eq_of_lt (by omega)]
    have hlt : (v_lane d1 d2 d3 d4 l1 l2 l3 l4 l5 off i d5 &&& (2 ^ t - 1) * 1) + (2 ^ t - 1 - win) * 1 < 2 ^ t := by
      rw [Nat.mul_one, Nat.mul_one, Nat.and_two_pow_sub_one_eq_mod, hlane]
      omega
    rw [Nat.testBit_xor, v_pack_bit hw (fun i hi => Nat.lt_of_le_of_lt Nat.and_le_left (hu i)), v_pack_bit hw hc, ej, em, decide_eq_true g0, Nat.testBit_and, Nat.testBit_lt_two_pow hlt, Nat.mul_one, Nat.testBit_two_pow_self]
    rfl
