/-! ===== a way against the law, its spans; lengths of the class ===== -/
def q_ac (L : Nat) (w : List Nat) (i : Int) : Bool := r_x L (q_at w i) (q_at w (i + 1))
/-- the sum of a row's numbers from a place on -/
def q_S (f : Nat → Int) : Nat → Nat → Int
  | _, 0 => 0
  | i, k + 1 => f i + q_S f (i + 1) k
def q_judge (L lw : Nat) (w : List Nat) : Nat → Nat → Int
  | _, 0 => -1
  | i, k + 1 => if r_may lw (q_ac L w ((i : Int) - 1)) (q_ac L w i) then q_judge L lw w (i + 1) k else (w.getD i 0 : Nat)
theorem n_lshl48 {x : Int} (h0 : 0 ≤ x) (h1 : x < 32768) : z_lshl x 48 = x * 281474976710656 := by
  have e : (2 : Int) ^ (48 : Int).toNat = 281474976710656 := by decide
  rw [n_lshl' h0 (by decide) (by decide) (by rw [e]; omega), e]
theorem n_lshr48 {x : Int} (h0 : 0 ≤ x) (h1 : x < 9223372036854775808) : z_lshr x 48 = x / 281474976710656 := by
  have e : (2 : Int) ^ (48 : Int).toNat = 281474976710656 := by decide
  rw [n_lshr' h0 h1 (by decide) (by decide), e]
theorem n_lshr58 {x : Int} (h0 : 0 ≤ x) (h1 : x < 9223372036854775808) : z_lshr x 58 = x / 288230376151711744 := by
  have e : (2 : Int) ^ (58 : Int).toNat = 288230376151711744 := by decide
  rw [n_lshr' h0 h1 (by decide) (by decide), e]
theorem n_land48 {x : Int} (h0 : 0 ≤ x) (h1 : x < 9223372036854775808) : z_land x 281474976710655 = x % 281474976710656 := by
  rw [n_pos h0, show (281474976710655 : Int) = ((2 ^ 48 - 1 : Nat) : Int) from rfl, n_land (by omega) (by decide), Nat.and_two_pow_sub_one_eq_mod]
  rfl
theorem n_land58 {x : Int} (h0 : 0 ≤ x) (h1 : x < 9223372036854775808) : z_land x 288230376151711743 = x % 288230376151711744 := by
  rw [n_pos h0, show (288230376151711743 : Int) = ((2 ^ 58 - 1 : Nat) : Int) from rfl, n_land (by omega) (by decide), Nat.and_two_pow_sub_one_eq_mod]
  rfl
/-- a span's length and pull, out of the six roots -/
def r_gap (L x y : Nat) : Nat := ((r_row L x : Int) - (r_row L y : Int)).natAbs
def r_len (ln : Nat → Int) (L B x y : Nat) : Int := if r_x L x y then ln (r_gap L x y) else ((r_gap L x y * B : Nat) : Int) * 281474976710656
def r_pul (pl : Nat → Int) (L x y : Nat) : Int := if r_x L x y then pl (r_gap L x y) else 0
theorem r_row_lt {L R x : Nat} (h1 : L ≤ 6) (h2 : R ≤ 6) (hx : x < L + R) : r_row L x < 6 := by
  unfold r_row; split <;> omega
theorem r_gap_lt {L R x y : Nat} (h1 : L ≤ 6) (h2 : R ≤ 6) (hx : x < L + R) (hy : y < L + R) : r_gap L x y < 6 := by
  have := r_row_lt h1 h2 hx
  have := r_row_lt h1 h2 hy
  unfold r_gap; omega
section Ways
variable {sp : Nat → Nat} {ph : Bool} {d : Nat} {m : y_m} {a b L R B lw : Nat} {w : List Nat}
theorem s_71 {i : Int} (hw : q_W m a w) (hn : w ≠ []) (hb : ∀ h ∈ w, h < 12) (hL : y_mI m b 0 = (L : Int)) (h6 : L ≤ 6) (h1 : -31 ≤ i) (h2 : i < 31) : y_V sp ph (d + 3) 71 [y_bo 8 0 a, y_bo 0 0 b, y_bi i] m = y_rI (n_b (q_ac L w i)) m := by
  have g1 := hb _ (q_at_mem (i := i) hn)
  have g2 := hb _ (q_at_mem (i := i + 1) hn)
  simp (disch := omega) only [y_C_71, y_E_71_0, s_65 hw hn, e_bI, s_45 hL h6]
  rfl
theorem l_72 (hw : q_W m a w) (hn : w ≠ []) (hb : ∀ h ∈ w, h < 12) (hL : y_mI m b 0 = (L : Int)) (h6 : L ≤ 6) (hlw : y_mI m b 5 = (lw : Int)) (h2 : lw ≤ 2) : ∀ (k i : Nat), i + k = w.length → y_R sp ph (d + 3) 72 2 [some (y_bo 8 0 a), some (y_bo 0 0 b), some (y_bi (i : Int))] [] m = y_rI (q_judge L lw w i k) m := by
  have hw' := hw
  obtain ⟨e1, e2, e3⟩ := hw'
  intro k
  induction k with
  | zero =>
    intro i h
    rw [y_E_72_2]
    simp (disch := omega) only [e1, z_w_id, if_pos, y_E_72_43]; rfl
  | succ k ih =>
    intro i h
    rw [y_E_72_2]
    simp (disch := omega) only [e1, z_w_id, if_neg, s_71 hw hn hb hL h6, e_bI, s_46 hlw h2, s_65 hw hn, y_E_72_37, e_nb0]
    rw [show (i : Int) + 1 = ((i + 1 : Nat) : Int) by omega, ih (i + 1) (by omega), q_at_nat (by omega), q_judge]
    cases r_may lw (q_ac L w ((i : Int) - 1)) (q_ac L w i) <;> simp
theorem s_72 (hw : q_W m a w) (hn : w ≠ []) (hb : ∀ h ∈ w, h < 12) (hL : y_mI m b 0 = (L : Int)) (h6 : L ≤ 6) (hlw : y_mI m b 5 = (lw : Int)) (h2 : lw ≤ 2) : y_V sp ph (d + 4) 72 [y_bo 8 0 a, y_bo 0 0 b] m = y_rI (q_judge L lw w 0 w.length) m := by
  simp only [y_C_72, y_E_72_0, y_E_72_37, y_E_72_43]
  exact l_72 hw hn hb hL h6 hlw h2 w.length 0 (by omega)
theorem l_73 (hw : q_W m a w) (hn : w ≠ []) (hb : ∀ h ∈ w, h < 12) (hL : y_mI m b 0 = (L : Int)) (h6 : L ≤ 6) : ∀ (k i : Nat) (x : Int), i + k = w.length → y_R sp ph (d + 3) 73 4 [some (y_bo 8 0 a), some (y_bo 0 0 b), some (y_bi x), some (y_bi (i : Int))] [] m = y_rI (x + q_S (fun i => n_b (q_ac L w i)) i k) m := by
  have hw' := hw
  obtain ⟨e1, e2, e3⟩ := hw'
  intro k
  induction k with
  | zero =>
    intro i x h
    rw [y_E_73_4]
    simp (disch := omega) only [e1, z_w_id, if_pos, y_E_73_27]; rw [q_S, Int.add_zero]
  | succ k ih =>
    intro i x h
    rw [y_E_73_4]
    simp (disch := omega) only [e1, z_w_id, if_neg, s_71 hw hn hb hL h6, e_bI]
    rw [show (i : Int) + 1 = ((i + 1 : Nat) : Int) by omega, ih (i + 1) _ (by omega), q_S, Int.add_assoc]
theorem s_73 (hw : q_W m a w) (hn : w ≠ []) (hb : ∀ h ∈ w, h < 12) (hL : y_mI m b 0 = (L : Int)) (h6 : L ≤ 6) : y_V sp ph (d + 4) 73 [y_bo 8 0 a, y_bo 0 0 b] m = y_rI (q_S (fun i => n_b (q_ac L w i)) 0 w.length) m := by
  simp only [y_C_73, y_E_73_0, y_E_73_27]
  rw [show (0 : Int) = ((0 : Nat) : Int) from rfl, l_73 hw hn hb hL h6 w.length 0 _ (by omega), show ((0 : Nat) : Int) = 0 from rfl, Int.zero_add]
def q_along (L : Nat) (w : List Nat) (i : Nat) : Bool := !(q_ac L w ((i : Int) - 1)) && !(q_ac L w i)
theorem l_74 (hw : q_W m a w) (hn : w ≠ []) (hb : ∀ h ∈ w, h < 12) (hL : y_mI m b 0 = (L : Int)) (h6 : L ≤ 6) : ∀ (k i : Nat) (x : Int), i + k = w.length → y_R sp ph (d + 3) 74 4 [some (y_bo 8 0 a), some (y_bo 0 0 b), some (y_bi x), some (y_bi (i : Int))] [] m = y_rI (x + q_S (fun i => n_b (q_along L w i)) i k) m := by
  have hw' := hw
  obtain ⟨e1, e2, e3⟩ := hw'
  intro k
  induction k with
  | zero =>
    intro i x h
    rw [y_E_74_4]
    simp (disch := omega) only [e1, z_w_id, if_pos, y_E_74_39]; rw [q_S, Int.add_zero]
  | succ k ih =>
    intro i x h
    have hs : ∀ (p q : Bool), (¬ z_w (n_b p + n_b q) = 0) = (n_b (!p && !q) = 0) := by
      intro p q; cases p <;> cases q <;> exact propext (by decide)
    rw [y_E_74_4]
    simp (disch := omega) only [e1, z_w_id, if_neg, s_71 hw hn hb hL h6, e_bI, hs, y_E_74_33]
    rw [show (i : Int) + 1 = ((i + 1 : Nat) : Int) by omega, ih (i + 1) _ (by omega), ih (i + 1) _ (by omega), q_S]
    show (if n_b (q_along L w i) = 0 then _ else _) = _
    cases q_along L w i
    · rw [show n_b false = 0 from rfl, if_pos rfl, Int.zero_add]
    · rw [if_neg (by decide), show n_b true = 1 from rfl, Int.add_assoc]
theorem s_74 (hw : q_W m a w) (hn : w ≠ []) (hb : ∀ h ∈ w, h < 12) (hL : y_mI m b 0 = (L : Int)) (h6 : L ≤ 6) : y_V sp ph (d + 4) 74 [y_bo 8 0 a, y_bo 0 0 b] m = y_rI (q_S (fun i => n_b (q_along L w i)) 0 w.length) m := by
  simp only [y_C_74, y_E_74_0, y_E_74_33, y_E_74_39]
  rw [show (0 : Int) = ((0 : Nat) : Int) from rfl, l_74 hw hn hb hL h6 w.length 0 _ (by omega), show ((0 : Nat) : Int) = 0 from rfl, Int.zero_add]
/-- the wear of a hole -/
def q_wear (L : Nat) (w : List Nat) (h : Nat) : Int := if h ∈ w then 3 - n_b (q_ac L w ((w.idxOf h : Int) - 1)) - n_b (q_ac L w (w.idxOf h : Int)) else 0
theorem s_75 {x : Nat} (hw : q_W m a w) (hb : ∀ h ∈ w, h < 12) (hx : x < 1000) (hL : y_mI m b 0 = (L : Int)) (h6 : L ≤ 6) : y_V sp ph (d + 4) 75 [y_bo 8 0 a, y_bo 0 0 b, y_bi (x : Int)] m = y_rI (q_wear L w x) m := by
  simp only [y_C_75, y_E_75_0, y_E_75_15, y_E_75_32, s_68 hw hb hx, e_bI]
  unfold q_find q_wear
  by_cases hm : x ∈ w
  · have hn : w ≠ [] := List.ne_nil_of_mem hm
    have hi := List.idxOf_lt_length_of_mem hm
    have hl := hw.2.1
    simp (disch := omega) only [if_pos hm, z_w_id, if_pos, s_71 hw hn hb hL h6, e_bI]
  · simp (disch := omega) only [if_neg hm, z_w_id, if_neg, not_true_eq_false, reduceIte]
/-- lengths -/
theorem s_52 {x y : Nat} (hL : y_mI m b 0 = (L : Int)) (h1 : L ≤ 6) (h2 : R ≤ 6) (hx : x < L + R) (hy : y < L + R) (hB : y_mI m 3 2 = (B : Int)) (hB' : B ≤ 99) : y_V sp ph (d + 3) 52 [y_bo 4 0 3, y_bo 0 0 b, y_bi (x : Int), y_bi (y : Int)] m = y_rL (r_len (y_mJ m 4) L B x y) m := by
  have g1 := r_row_lt h1 h2 hx
  have g2 := r_row_lt h1 h2 hy
  have g3 := r_gap_lt h1 h2 hx hy
  have hm : (r_gap L x y : Int) * (B : Int) ≤ 5 * 99 := Int.mul_le_mul (by omega) (by omega) (by omega) (by omega)
  have hm0 : 0 ≤ (r_gap L x y : Int) * (B : Int) := Int.mul_nonneg (by omega) (by omega)
  simp (disch := omega) only [y_C_52, y_E_52_0, y_E_52_38, s_44 hL h1, s_45 hL h1, s_3, e_bI, e_nb0]
  show (if ¬ r_x L x y = false then y_bL (y_V sp ph (d + 2) 9 [y_bo 101 6 4, y_bi (r_gap L x y : Int)] m) _ _ else y_rL (z_lshl (z_w (r_gap L x y : Int) * z_w (y_mI m 3 2)) 48) m) = _
  unfold r_len
  cases r_x L x y
  · rw [if_neg (by decide), if_neg (by decide), hB, z_w_id (by omega) (by omega), z_w_id (by omega) (by omega), n_lshl48 hm0 (by omega), Int.natCast_mul]
  · rw [if_pos (by decide), if_pos rfl, s_9 (by omega) (by omega) (by omega), e_bL, Int.toNat_natCast]
theorem s_53 {x y : Nat} (hL : y_mI m b 0 = (L : Int)) (h1 : L ≤ 6) (h2 : R ≤ 6) (hx : x < L + R) (hy : y < L + R) : y_V sp ph (d + 3) 53 [y_bo 4 0 3, y_bo 0 0 b, y_bi (x : Int), y_bi (y : Int)] m = y_rL (r_pul (y_mJ m 5) L x y) m := by
  have g1 := r_row_lt h1 h2 hx
  have g2 := r_row_lt h1 h2 hy
  have g3 := r_gap_lt h1 h2 hx hy
  simp (disch := omega) only [y_C_53, y_E_53_0, y_E_53_29, y_E_53_38, s_44 hL h1, s_45 hL h1, s_3, e_bI, e_nb0]
  show (if ¬ r_x L x y = false then y_bL (y_V sp ph (d + 2) 9 [y_bo 101 6 5, y_bi (r_gap L x y : Int)] m) _ _ else y_rL 0 m) = _
  unfold r_pul
  cases r_x L x y
  · rw [if_neg (by decide), if_neg (by decide)]
  · rw [if_pos (by decide), if_pos rfl, s_9 (by omega) (by omega) (by omega), e_bL, Int.toNat_natCast]
def q_len (ln : Nat → Int) (L B : Nat) (w : List Nat) (i : Nat) : Int := r_len ln L B (q_at w i) (q_at w ((i : Int) + 1))
def q_pul (pl : Nat → Int) (L : Nat) (w : List Nat) (i : Nat) : Int := r_pul pl L (q_at w i) (q_at w ((i : Int) + 1))
theorem l_54 (hw : q_W m a w) (hn : w ≠ []) (hb : ∀ h ∈ w, h < L + R) (hL : y_mI m b 0 = (L : Int)) (h1 : L ≤ 6) (h2 : R ≤ 6) (hB : y_mI m 3 2 = (B : Int)) (hB' : B ≤ 99) : ∀ (k i : Nat) (x : Int), i + k = w.length → y_R sp ph (d + 3) 54 5 [some (y_bo 4 0 3), some (y_bo 0 0 b), some (y_bo 8 0 a), some (y_bl x), none, some (y_bi (i : Int))] [] m = y_rL (x + q_S (q_len (y_mJ m 4) L B w) i k) m := by
  have hw' := hw
  obtain ⟨e1, e2, e3⟩ := hw'
  intro k
  induction k with
  | zero =>
    intro i x h
    rw [y_E_54_5]
    simp (disch := omega) only [e1, z_w_id, if_pos, y_E_54_42]; rw [q_S, Int.add_zero]
  | succ k ih =>
    intro i x h
    have g1 := hb _ (q_at_mem (i := i) hn)
    have g2 := hb _ (q_at_mem (i := (i : Int) + 1) hn)
    rw [y_E_54_5]
    simp (disch := omega) only [e1, z_w_id, if_neg, s_65 hw hn, e_bI, s_52 hL h1 h2 g1 g2 hB hB', e_bL]
    rw [show (i : Int) + 1 = ((i + 1 : Nat) : Int) by omega, ih (i + 1) _ (by omega), q_S, Int.add_assoc]
    rfl
theorem s_54 (hw : q_W m a w) (hn : w ≠ []) (hb : ∀ h ∈ w, h < L + R) (hL : y_mI m b 0 = (L : Int)) (h1 : L ≤ 6) (h2 : R ≤ 6) (hB : y_mI m 3 2 = (B : Int)) (hB' : B ≤ 99) : y_V sp ph (d + 4) 54 [y_bo 4 0 3, y_bo 0 0 b, y_bo 8 0 a] m = y_rL (q_S (q_len (y_mJ m 4) L B w) 0 w.length) m := by
  simp only [y_C_54, y_E_54_0, y_E_54_42]
  rw [show (0 : Int) = ((0 : Nat) : Int) from rfl, l_54 hw hn hb hL h1 h2 hB hB' w.length 0 _ (by omega), show ((0 : Nat) : Int) = 0 from rfl, Int.zero_add]
theorem l_55 (hw : q_W m a w) (hn : w ≠ []) (hb : ∀ h ∈ w, h < L + R) (hL : y_mI m b 0 = (L : Int)) (h1 : L ≤ 6) (h2 : R ≤ 6) : ∀ (k i : Nat) (x : Int), i + k = w.length → y_R sp ph (d + 3) 55 5 [some (y_bo 4 0 3), some (y_bo 0 0 b), some (y_bo 8 0 a), some (y_bl x), none, some (y_bi (i : Int))] [] m = y_rL (x + q_S (q_pul (y_mJ m 5) L w) i k) m := by
  have hw' := hw
  obtain ⟨e1, e2, e3⟩ := hw'
  intro k
  induction k with
  | zero =>
    intro i x h
    rw [y_E_55_5]
    simp (disch := omega) only [e1, z_w_id, if_pos, y_E_55_42]; rw [q_S, Int.add_zero]
  | succ k ih =>
    intro i x h
    have g1 := hb _ (q_at_mem (i := i) hn)
    have g2 := hb _ (q_at_mem (i := (i : Int) + 1) hn)
    rw [y_E_55_5]
    simp (disch := omega) only [e1, z_w_id, if_neg, s_65 hw hn, e_bI, s_53 hL h1 h2 g1 g2, e_bL]
    rw [show (i : Int) + 1 = ((i + 1 : Nat) : Int) by omega, ih (i + 1) _ (by omega), q_S, Int.add_assoc]
    rfl
theorem s_55 (hw : q_W m a w) (hn : w ≠ []) (hb : ∀ h ∈ w, h < L + R) (hL : y_mI m b 0 = (L : Int)) (h1 : L ≤ 6) (h2 : R ≤ 6) : y_V sp ph (d + 4) 55 [y_bo 4 0 3, y_bo 0 0 b, y_bo 8 0 a] m = y_rL (q_S (q_pul (y_mJ m 5) L w) 0 w.length) m := by
  simp only [y_C_55, y_E_55_0, y_E_55_42]
  rw [show (0 : Int) = ((0 : Nat) : Int) from rfl, l_55 hw hn hb hL h1 h2 w.length 0 _ (by omega), show ((0 : Nat) : Int) = 0 from rfl, Int.zero_add]
theorem s_56 {x y : Int} (h1 : -9223372036854775808 ≤ x) (h2 : x < 9223372036854775744) (h3 : -9223372036854775808 ≤ y) (h4 : y < 9223372036854775808) : y_V sp ph (d + 1) 56 [y_bl x, y_bl y] m = y_rI (n_b (decide (x + 64 < y))) m := by
  by_cases h : x + 64 < y
  · simp (disch := omega) only [y_C_56, y_E_56_0, y_E_56_14, y_E_56_15, n_lc_ge, if_neg, e_g]
    rw [decide_eq_true h]; rfl
  · simp (disch := omega) only [y_C_56, y_E_56_0, y_E_56_14, y_E_56_15, n_lc_ge, if_pos, e_g]
    rw [decide_eq_false h]; rfl
theorem s_57 {x : Int} {y : Nat} (h1 : -9223372036854775808 ≤ x) (h2 : x < 9223372036854775808) (h3 : y ≤ 9999) : y_V sp ph (d + 2) 57 [y_bl x, y_bi (y : Int)] m = y_rI (n_b (!decide ((y : Int) * 281474976710656 + 64 < x))) m := by
  simp (disch := omega) only [y_C_57, y_E_57_0, y_E_57_16, y_E_57_17, z_w_id, n_lshl48, s_56, e_bI, e_nb0, e_g]
  cases decide ((y : Int) * 281474976710656 + 64 < x) <;> rfl
theorem s_58 {x : Int} (h1 : -64 ≤ x) (h2 : x < 4611686018427387904) : y_V sp ph (d + 1) 58 [y_bl x] m = y_rI ((x + 64) * 1000 / 281474976710656) m := by
  have e : (x + 64) / 281474976710656 * 1000 + (x + 64) % 281474976710656 * 1000 / 281474976710656 = (x + 64) * 1000 / 281474976710656 := by omega
  simp (disch := omega) only [y_C_58, y_E_58_0, n_lshr48, n_land48]
  rw [e]
theorem l_59 : ∀ (k : Nat) (t p : Int) (i : Int), i + k = 6 → 0 ≤ i → 0 ≤ p → p < 288230376151711744 → y_R sp ph d 59 22 [none, none, none, none, some (y_bl t), none, some (y_bl p), none, some (y_bi i)] [] m = y_rI (t * 10 ^ k + p * 10 ^ k / 288230376151711744) m := by
  intro k
  induction k with
  | zero =>
    intro t p i h hi h0 h1
    rw [y_E_59_22]
    simp (disch := omega) only [z_w_id, if_pos, y_E_59_65]
    rw [show t * 10 ^ 0 + p * 10 ^ 0 / 288230376151711744 = t by omega]
  | succ k ih =>
    intro t p i h hi h0 h1
    rw [y_E_59_22]
    simp (disch := omega) only [z_w_id, if_neg, n_lshr58, n_land58]
    rw [ih _ _ _ (by omega) (by omega) (by omega) (by omega)]
    have e : p * 10 ^ (k + 1) = (p * 10 / 288230376151711744 * 10 ^ k) * 288230376151711744 + p * 10 % 288230376151711744 * 10 ^ k := by
      have e2 : p * 10 = p * 10 / 288230376151711744 * 288230376151711744 + p * 10 % 288230376151711744 := by omega
      have e3 : p * 10 ^ (k + 1) = p * 10 * 10 ^ k := by rw [Int.pow_succ, Int.mul_comm (10 ^ k) 10, Int.mul_assoc]
      rw [e3]
      generalize p * 10 / 288230376151711744 = q at *
      generalize p * 10 % 288230376151711744 = r at *
      rw [e2, Int.add_mul, Int.mul_right_comm]
    rw [e, Int.add_ediv_of_dvd_left (Int.dvd_mul_left _ _), Int.mul_ediv_cancel _ (by decide), Int.add_mul, Int.pow_succ, Int.add_assoc, Int.mul_assoc, Int.mul_comm 10 (10 ^ k)]
theorem s_59 {x : Int} (h1 : -64 ≤ x) (h2 : x < 4611686018427387904) : y_V sp ph (d + 1) 59 [y_bl x] m = y_rI ((x + 64) * 1000000 / 288230376151711744) m := by
  simp (disch := omega) only [y_C_59, y_E_59_0, y_E_59_65, n_lshr58, n_land58]
  rw [l_59 6 _ _ _ (by omega) (by omega) (by omega) (by omega)]
  have e : (x + 64) / 288230376151711744 * 10 ^ 6 + (x + 64) % 288230376151711744 * 10 ^ 6 / 288230376151711744 = (x + 64) * 1000000 / 288230376151711744 := by omega
  rw [e]
end Ways
