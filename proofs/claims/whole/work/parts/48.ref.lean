/-! ===== the reference: its leaves ===== -/
/-- the code of a span: whole parts from 2^24 on, times of each root below -/
def r_code (L A B x y : Nat) : Nat := if r_x L x y then (if r_gap L x y = 0 then A * 16777216 + 1 else 16 ^ r_gap L x y) else r_gap L x y * B * 16777216
/-- the way of the reference -/
def q_V (m : y_m) (w : List Nat) : Prop := y_mI m 49 13 = (w.length : Int) ∧ w.length ≤ 12 ∧ ∀ i, i < w.length → y_mI m 54 i = ((w.getD i 0 : Nat) : Int)
theorem n_lshl24 {x : Int} (h0 : 0 ≤ x) (h1 : x < 32768) : z_lshl x 24 = x * 16777216 := by
  have e : (2 : Int) ^ (24 : Int).toNat = 16777216 := by decide
  rw [n_lshl' h0 (by decide) (by decide) (by rw [e]; omega), e]
theorem n_lshr24 {x : Int} (h0 : 0 ≤ x) (h1 : x < 9223372036854775808) : z_lshr x 24 = x / 16777216 := by
  have e : (2 : Int) ^ (24 : Int).toNat = 16777216 := by decide
  rw [n_lshr' h0 h1 (by decide) (by decide), e]
theorem n_pop_S : ∀ x, x < 64 → ∀ y, y < 64 → q_S (fun k => n_b ((64 * x + y).testBit k)) 0 12 = n_pop (64 * x + y) := by decide +kernel
theorem n_pop_eq (x : Nat) (h : x < 4096) : q_S (fun k => n_b (x.testBit k)) 0 12 = n_pop x := by
  have e := n_pop_S (x / 64) (by omega) (x % 64) (by omega)
  rw [show 64 * (x / 64) + x % 64 = x by omega] at e
  exact e
theorem q_at_pred {w : List Nat} (i : Int) (h : w ≠ []) : q_at w (i - 1) = w.getD ((i + w.length - 1) % (w.length : Int)).toNat 0 := by
  unfold q_at
  rw [show i + (w.length : Int) - 1 = i - 1 + w.length by omega, Int.add_emod_right]
section Ref
variable {sp : Nat → Nat} {ph : Bool} {d : Nat} {m : y_m} {L R A B t lw : Nat} {w : List Nat}
theorem t_178 : y_V sp ph (d + 1) 178 [y_bo 11 0 49] m = y_rI (y_mI m 49 0) m := by simp only [y_C_178, y_E_178_0]
theorem t_179a (h : y_mI m 49 0 = 0) {x : Int} : y_V sp ph (d + 1) 179 [y_bo 11 0 49, y_bi 0, y_bi x] m = y_rI 0 m := by
  simp (disch := omega) only [y_C_179, y_E_179_0, y_E_179_16, y_E_179_27, y_E_179_28, h, z_w_id, if_pos, if_neg, e_g, e_bI, e_bV, e_bL, e_II, e_II', e_IJ, e_JI, e_JJ, e_JJ', reduceIte, not_true_eq_false, not_false_eq_true, true_or, or_true, true_and, and_true, e_nb0, e_gT]
theorem t_179b (h : y_mI m 49 0 = 0) {x : Int} (hx : 0 < x) (hx' : x < 10) : y_V sp ph (d + 1) 179 [y_bo 11 0 49, y_bi 1, y_bi x] m = y_rI 1 (y_sI m 49 0 x) := by
  simp (disch := omega) only [y_C_179, y_E_179_0, y_E_179_16, y_E_179_27, y_E_179_28, h, z_w_id, if_pos, if_neg, e_g, e_bI, e_bV, e_bL, e_II, e_II', e_IJ, e_JI, e_JJ, e_JJ', reduceIte, not_true_eq_false, not_false_eq_true, true_or, or_true, true_and, and_true, e_nb0, e_gT]
theorem t_179c (h : 0 < y_mI m 49 0) (h' : y_mI m 49 0 < 10) {x y : Int} (hy : y = 0 ∨ y = 1) : y_V sp ph (d + 1) 179 [y_bo 11 0 49, y_bi y, y_bi x] m = y_rI 1 m := by
  rcases hy with rfl | rfl
  · simp (disch := omega) only [y_C_179, y_E_179_0, y_E_179_16, y_E_179_27, y_E_179_28, z_w_id, if_pos, if_neg, e_g, e_bI, e_bV, e_bL, e_II, e_II', e_IJ, e_JI, e_JJ, e_JJ', reduceIte, not_true_eq_false, not_false_eq_true, true_or, or_true, true_and, and_true, e_nb0, e_gT]
  · simp (disch := omega) only [y_C_179, y_E_179_0, y_E_179_16, y_E_179_27, y_E_179_28, z_w_id, if_pos, if_neg, e_g, e_bI, e_bV, e_bL, e_II, e_II', e_IJ, e_JI, e_JJ, e_JJ', reduceIte, not_true_eq_false, not_false_eq_true, true_or, or_true, true_and, and_true, e_nb0, e_gT]
theorem t_180 {v lo hi : Int} (h1 : -2147483648 ≤ v) (h2 : v < 2147483648) (h3 : -2147483648 ≤ lo) (h4 : lo < 2147483648) (h5 : -2147483648 ≤ hi) (h6 : hi < 2147483648) : y_V sp ph (d + 1) 180 [y_bi v, y_bi lo, y_bi hi] m = y_rI (n_b (decide (lo ≤ v ∧ v ≤ hi))) m := by
  by_cases g : v < lo
  · simp (disch := omega) only [y_C_180, y_E_180_0, y_E_180_14, y_E_180_15, z_w_id, if_pos, e_g]
    rw [decide_eq_false (by omega)]; rfl
  · by_cases g' : hi < v
    · simp (disch := omega) only [y_C_180, y_E_180_0, y_E_180_14, y_E_180_15, z_w_id, if_pos, if_neg, e_g]
      rw [decide_eq_false (by omega)]; rfl
    · simp (disch := omega) only [y_C_180, y_E_180_0, y_E_180_14, y_E_180_15, z_w_id, if_neg, e_g]
      rw [decide_eq_true (by omega)]; rfl
theorem t_199 : y_V sp ph (d + 1) 199 [y_bo 11 0 49] m = y_rI (y_mI m 52 0 + y_mI m 52 1) m := by simp only [y_C_199, y_E_199_0]
theorem t_200 (hL : y_mI m 52 0 = (L : Int)) (hR : y_mI m 52 1 = (R : Int)) (ht : y_mI m 52 6 = (t : Int)) (h1 : L ≤ 6) (h2 : R ≤ 6) (h : t < 4096) : y_V sp ph (d + 2) 200 [y_bo 11 0 49] m = y_rI (n_bd (2 ^ (L + R) - 1) t : Int) m := by
  have hp : 2 ^ (L + R) ≤ 2 ^ 12 := Nat.pow_le_pow_right (by decide) (by omega)
  have hq : 0 < 2 ^ (L + R) := Nat.pow_pos (by decide)
  simp only [y_C_200, y_E_200_0, t_199, e_bI, hL, hR, ht]
  rw [show (L : Int) + (R : Int) = ((L + R : Nat) : Int) by omega, n_one (by omega), show ((2 ^ (L + R) : Nat) : Int) - 1 = ((2 ^ (L + R) - 1 : Nat) : Int) by omega, n_not (by omega) (by omega)]
theorem l_201 {x : Nat} (hx : x < 4096) : ∀ (k i : Nat) (v : Int), i + k = 12 → y_R sp ph d 201 4 [some (y_bi (x : Int)), some (y_bi v), some (y_bi (i : Int))] [] m = y_rI (v + q_S (fun k => n_b (x.testBit k)) i k) m := by
  intro k
  induction k with
  | zero =>
    intro i v h
    rw [y_E_201_4]
    simp (disch := omega) only [z_w_id, if_pos, y_E_201_24]; rw [q_S, Int.add_zero]
  | succ k ih =>
    intro i v h
    rw [y_E_201_4]
    simp (disch := omega) only [z_w_id, if_neg, n_bit]
    rw [show (i : Int) + 1 = ((i + 1 : Nat) : Int) by omega, ih (i + 1) _ (by omega), q_S, Int.add_assoc]
    rfl
theorem t_201 {x : Nat} (hx : x < 4096) : y_V sp ph (d + 1) 201 [y_bi (x : Int)] m = y_rI (n_pop x : Int) m := by
  simp only [y_C_201, y_E_201_0, y_E_201_24]
  rw [show (0 : Int) = ((0 : Nat) : Int) from rfl, l_201 hx 12 0 _ (by omega), n_pop_eq x hx, show ((0 : Nat) : Int) = 0 from rfl, Int.zero_add]
theorem t_209 {x : Nat} (hL : y_mI m 52 0 = (L : Int)) (h1 : L ≤ 6) (hx : x < 1000) : y_V sp ph (d + 1) 209 [y_bo 11 0 49, y_bi (x : Int)] m = y_rI (n_b (decide (x < L))) m := by
  by_cases h : x < L
  · simp (disch := omega) only [y_C_209, y_E_209_0, y_E_209_14, y_E_209_15, hL, z_w_id, if_neg, e_g]
    rw [decide_eq_true (by omega)]; rfl
  · simp (disch := omega) only [y_C_209, y_E_209_0, y_E_209_14, y_E_209_15, hL, z_w_id, if_pos, e_g]
    rw [decide_eq_false (by omega)]; rfl
theorem t_210 {x : Nat} (hL : y_mI m 52 0 = (L : Int)) (h1 : L ≤ 6) (hx : x < 1000) : y_V sp ph (d + 2) 210 [y_bo 11 0 49, y_bi (x : Int)] m = y_rI (r_row L x : Int) m := by
  simp only [y_C_210, y_E_210_0, y_E_210_12, y_E_210_20, t_209 hL h1 hx, e_bI, e_nb0, hL]
  unfold r_row
  by_cases h : x < L
  · rw [decide_eq_true h, if_neg (by decide), if_pos h]
  · rw [decide_eq_false h, if_pos rfl, if_neg h, show ((x - L : Nat) : Int) = (x : Int) - L by omega]
theorem t_211 {x y : Nat} (hL : y_mI m 52 0 = (L : Int)) (h1 : L ≤ 6) (hx : x < 1000) (hy : y < 1000) : y_V sp ph (d + 2) 211 [y_bo 11 0 49, y_bi (x : Int), y_bi (y : Int)] m = y_rI (n_b (r_x L x y)) m := by
  simp only [y_C_211, y_E_211_0, y_E_211_17, y_E_211_18, t_209 hL h1 hx, t_209 hL h1 hy, e_bI, e_nbz]
  unfold r_x
  cases decide (x < L) <;> cases decide (y < L) <;> rfl
theorem t_212 {x y : Nat} (hL : y_mI m 52 0 = (L : Int)) (hA : y_mI m 52 2 = (A : Int)) (hB : y_mI m 52 3 = (B : Int)) (h1 : L ≤ 6) (h2 : R ≤ 6) (hx : x < L + R) (hy : y < L + R) (hA' : A ≤ 99) (hB' : B ≤ 99) : y_V sp ph (d + 3) 212 [y_bo 11 0 49, y_bi (x : Int), y_bi (y : Int)] m = y_rL (r_code L A B x y : Int) m := by
  have g1 := r_row_lt h1 h2 hx
  have g2 := r_row_lt h1 h2 hy
  have g3 := r_gap_lt h1 h2 hx hy
  have hm : (r_gap L x y : Int) * (B : Int) ≤ 5 * 99 := Int.mul_le_mul (by omega) (by omega) (by omega) (by omega)
  have hm0 : 0 ≤ (r_gap L x y : Int) * (B : Int) := Int.mul_nonneg (by omega) (by omega)
  have key : y_R sp ph (d + 2) 212 38 [some (y_bo 11 0 49), some (y_bi (x : Int)), some (y_bi (y : Int)), none] [y_bi (r_gap L x y : Int)] m = y_rL (r_code L A B x y : Int) m := by
    rw [y_E_212_38]
    simp (disch := omega) only [t_211 hL h1, e_bI, e_nb0, hA, hB, y_E_212_61, y_E_212_78, y_E_212_79]
    unfold r_code
    cases r_x L x y
    · rw [if_neg (by decide), if_neg (by decide), z_w_id (by omega) (by omega), n_lshl24 hm0 (by omega), Int.natCast_mul, Int.natCast_mul]; rfl
    · rw [if_pos (by decide), if_pos rfl]
      by_cases hg : r_gap L x y = 0
      · have e1 : z_lshl 1 (4 * ((0 : Nat) : Int)) = ((1 : Nat) : Int) := by decide
        rw [hg, if_neg (by decide), if_pos rfl, z_w_id (by omega) (by omega), n_lshl24 (by omega) (by omega), e1, show (A : Int) * 16777216 = ((A * 16777216 : Nat) : Int) by omega, n_lor (by omega) (by omega)]
        have := Nat.shiftLeft_add_eq_or_of_lt (i := 24) (b := 1) (by decide) A
        rw [Nat.shiftLeft_eq] at this
        rw [show A * 16777216 = A * 2 ^ 24 from rfl, ← this]
      · have e2 : ∀ g, g < 6 → z_lor 0 (z_lshl 1 (4 * ((g : Nat) : Int))) = ((16 ^ g : Nat) : Int) := by decide
        rw [if_pos (by rw [z_w_id (by omega) (by omega)]; omega), if_neg hg, e2 _ g3]
  simp (disch := omega) only [y_C_212, y_E_212_0, y_E_212_27, t_210 hL h1, e_bI, z_w_id]
  by_cases hc : (r_row L x : Int) ≤ r_row L y
  · rw [if_pos hc, show (r_row L y : Int) - r_row L x = (r_gap L x y : Int) by unfold r_gap; omega]; exact key
  · rw [if_neg hc, show (r_row L x : Int) - r_row L y = (r_gap L x y : Int) by unfold r_gap; omega]; exact key
theorem t_213 {c : Nat} (hc : c < 9223372036854775808) : y_V sp ph (d + 1) 213 [y_bl (c : Int)] m = y_rI ((c / 16777216 : Nat) : Int) m := by
  simp (disch := omega) only [y_C_213, y_E_213_0, n_lshr24]
  rfl
theorem t_214 {c k : Nat} (hc : c < 9223372036854775808) (hk : k < 6) : y_V sp ph (d + 1) 214 [y_bl (c : Int), y_bi (k : Int)] m = y_rI ((c / 16 ^ k % 16 : Nat) : Int) m := by
  have e : c >>> (4 * k) ≤ c := Nat.shiftRight_le _ _
  simp only [y_C_214, y_E_214_0]
  rw [show (4 : Int) * (k : Int) = ((4 * k : Nat) : Int) by omega, n_lshr (by omega) hc, show (15 : Int) = ((2 ^ 4 - 1 : Nat) : Int) from rfl, n_land (by omega) (by decide), Nat.and_two_pow_sub_one_eq_mod, Nat.shiftRight_eq_div_pow, Nat.pow_mul]
theorem t_225 {i : Nat} (hw : q_V m w) (hn : w ≠ []) (h1 : i < 100) : y_V sp ph (d + 1) 225 [y_bo 11 0 49, y_bi (i : Int)] m = y_rI (q_at w ((i : Int) + 1) : Int) m := by
  obtain ⟨e1, e2, e3⟩ := hw
  have hl : 0 < w.length := List.length_pos_iff.mpr hn
  have h3 : 0 ≤ ((i : Int) + 1) % (w.length : Int) := Int.emod_nonneg _ (by omega)
  have h4 : ((i : Int) + 1) % (w.length : Int) < w.length := Int.emod_lt_of_pos _ (by omega)
  simp (disch := omega) only [y_C_225, y_E_225_0, e1, z_w_id, n_irem, e_g]
  rw [e3 _ (by omega)]; rfl
theorem t_226 {i : Nat} (hw : q_V m w) (hn : w ≠ []) (h1 : i < 100) : y_V sp ph (d + 1) 226 [y_bo 11 0 49, y_bi (i : Int)] m = y_rI (q_at w ((i : Int) - 1) : Int) m := by
  obtain ⟨e1, e2, e3⟩ := hw
  have hl : 0 < w.length := List.length_pos_iff.mpr hn
  have h3 : 0 ≤ ((i : Int) + w.length - 1) % (w.length : Int) := Int.emod_nonneg _ (by omega)
  have h4 : ((i : Int) + w.length - 1) % (w.length : Int) < w.length := Int.emod_lt_of_pos _ (by omega)
  simp (disch := omega) only [y_C_226, y_E_226_0, e1, z_w_id, n_irem, e_g]
  rw [e3 _ (by omega), q_at_pred _ hn]
theorem t_227 {i o : Bool} (hw : y_mI m 52 4 = (lw : Int)) (h2 : lw ≤ 2) : y_V sp ph (d + 1) 227 [y_bo 11 0 49, y_bi (n_b i), y_bi (n_b o)] m = y_rI (n_b (r_may lw i o)) m := by
  have h3 : lw = 0 ∨ lw = 1 ∨ lw = 2 := by omega
  have hi := n_b_r (b := i)
  have ho := n_b_r (b := o)
  rcases h3 with rfl | rfl | rfl
  · simp (disch := omega) only [y_C_227, y_E_227_0, y_E_227_30, y_E_227_35, y_E_227_39, y_E_227_40, hw, z_w_id, if_pos, e_g, r_may]; rfl
  · simp (disch := omega) only [y_C_227, y_E_227_0, y_E_227_30, y_E_227_35, y_E_227_39, y_E_227_40, hw, z_w_id, if_neg, if_pos, r_may]
    cases i <;> cases o <;> rfl
  · simp (disch := omega) only [y_C_227, y_E_227_0, y_E_227_30, y_E_227_35, y_E_227_39, y_E_227_40, hw, z_w_id, if_neg, if_pos, r_may]
    cases i <;> cases o <;> rfl
theorem t_228 {i : Nat} (hw : q_V m w) (hn : w ≠ []) (hb : ∀ h ∈ w, h < 12) (hL : y_mI m 52 0 = (L : Int)) (h6 : L ≤ 6) (hlw : y_mI m 52 4 = (lw : Int)) (h2 : lw ≤ 2) (hi : i < w.length) : y_V sp ph (d + 3) 228 [y_bo 11 0 49, y_bi (i : Int)] m = y_rI (n_b (!r_may lw (q_ac L w ((i : Int) - 1)) (q_ac L w i))) m := by
  have hw' := hw
  obtain ⟨e1, e2, e3⟩ := hw'
  have g1 := hb _ (q_at_mem (i := (i : Int) - 1) hn)
  have g2 := hb _ (q_at_mem (i := (i : Int) + 1) hn)
  have g3 : w.getD i 0 < 12 := by rw [← q_at_nat hi]; exact hb _ (q_at_mem hn)
  have g4 : y_mI m 54 (i : Int).toNat = ((w.getD i 0 : Nat) : Int) := e3 i hi
  have e5 : q_ac L w ((i : Int) - 1) = r_x L (q_at w ((i : Int) - 1)) (w.getD i 0) := by
    unfold q_ac; rw [show (i : Int) - 1 + 1 = i by omega, q_at_nat hi]
  have e6 : q_ac L w (i : Int) = r_x L (w.getD i 0) (q_at w ((i : Int) + 1)) := by
    unfold q_ac; rw [q_at_nat hi]
  simp (disch := omega) only [y_C_228, y_E_228_0, y_E_228_41, y_E_228_42, t_226 hw hn, t_225 hw hn, e_bI, e_g, g4, t_211 hL h6, t_227 hlw h2, e_nb0]
  rw [e5, e6]
  cases r_may lw (r_x L (q_at w ((i : Int) - 1)) (w.getD i 0)) (r_x L (w.getD i 0) (q_at w ((i : Int) + 1))) <;> rfl
theorem l_229 (hw : q_V m w) (hn : w ≠ []) (hb : ∀ h ∈ w, h < 12) (hL : y_mI m 52 0 = (L : Int)) (h6 : L ≤ 6) (hlw : y_mI m 52 4 = (lw : Int)) (h2 : lw ≤ 2) : ∀ (k i : Nat), i + k = w.length → y_R sp ph (d + 3) 229 2 [some (y_bo 11 0 49), some (y_bi (i : Int))] [] m = y_rI (q_judge L lw w i k) m := by
  have hw' := hw
  obtain ⟨e1, e2, e3⟩ := hw'
  intro k
  induction k with
  | zero =>
    intro i h
    rw [y_E_229_2]
    simp (disch := omega) only [e1, z_w_id, if_pos, y_E_229_31]; rfl
  | succ k ih =>
    intro i h
    have g4 : y_mI m 54 (i : Int).toNat = ((w.getD i 0 : Nat) : Int) := e3 i (by omega)
    rw [y_E_229_2]
    simp (disch := omega) only [e1, z_w_id, if_neg, t_228 hw hn hb hL h6 hlw h2, e_bI, y_E_229_25, e_nb0, e_g, g4]
    rw [show (i : Int) + 1 = ((i + 1 : Nat) : Int) by omega, ih (i + 1) (by omega), q_judge]
    cases r_may lw (q_ac L w ((i : Int) - 1)) (q_ac L w i) <;> simp
theorem t_229 (hw : q_V m w) (hn : w ≠ []) (hb : ∀ h ∈ w, h < 12) (hL : y_mI m 52 0 = (L : Int)) (h6 : L ≤ 6) (hlw : y_mI m 52 4 = (lw : Int)) (h2 : lw ≤ 2) : y_V sp ph (d + 4) 229 [y_bo 11 0 49] m = y_rI (q_judge L lw w 0 w.length) m := by
  simp only [y_C_229, y_E_229_0, y_E_229_25, y_E_229_31]
  exact l_229 hw hn hb hL h6 hlw h2 w.length 0 (by omega)
theorem t_230a (h : y_mI m 49 0 = 0) (hw : q_V m w) (hn : w ≠ []) : y_V sp ph (d + 2) 230 [y_bo 11 0 49] m = y_rI 0 m := by
  obtain ⟨e1, e2, e3⟩ := hw
  have hl : 0 < w.length := List.length_pos_iff.mpr hn
  simp (disch := omega) only [y_C_230, y_E_230_0, y_E_230_12, y_E_230_13, e1, t_179a h, z_w_id, if_pos, if_neg, e_g, e_bI, e_bV, e_bL, e_II, e_II', e_IJ, e_JI, e_JJ, e_JJ', reduceIte, not_true_eq_false, not_false_eq_true, true_or, or_true, true_and, and_true, e_nb0, e_gT]
theorem t_230b (h : y_mI m 49 0 = 0) (hw : q_V m []) : y_V sp ph (d + 2) 230 [y_bo 11 0 49] m = y_rI 1 (y_sI m 49 0 1) := by
  obtain ⟨e1, e2, e3⟩ := hw
  have e4 : y_mI m 49 13 = 0 := e1
  simp (disch := omega) only [y_C_230, y_E_230_0, y_E_230_12, y_E_230_13, e4, t_179b h, z_w_id, if_pos, if_neg, e_g, e_bI, e_bV, e_bL, e_II, e_II', e_IJ, e_JI, e_JJ, e_JJ', reduceIte, not_true_eq_false, not_false_eq_true, true_or, or_true, true_and, and_true, e_nb0, e_gT]
def q_code (L A B : Nat) (w : List Nat) (i : Nat) : Int := (r_code L A B (q_at w i) (q_at w ((i : Int) + 1)) : Int)
theorem l_232 (hw : q_V m w) (hn : w ≠ []) (hb : ∀ h ∈ w, h < L + R) (hL : y_mI m 52 0 = (L : Int)) (hA : y_mI m 52 2 = (A : Int)) (hB : y_mI m 52 3 = (B : Int)) (h1 : L ≤ 6) (h2 : R ≤ 6) (hA' : A ≤ 99) (hB' : B ≤ 99) : ∀ (k i : Nat) (x : Int), i + k = w.length → y_R sp ph (d + 3) 232 4 [some (y_bo 11 0 49), some (y_bl x), none, some (y_bi (i : Int))] [] m = y_rL (x + q_S (q_code L A B w) i k) m := by
  have hw' := hw
  obtain ⟨e1, e2, e3⟩ := hw'
  intro k
  induction k with
  | zero =>
    intro i x h
    rw [y_E_232_4]
    simp (disch := omega) only [e1, z_w_id, if_pos, y_E_232_36]; rw [q_S, Int.add_zero]
  | succ k ih =>
    intro i x h
    have g0 := q_at_nat (w := w) (i := i) (by omega)
    have g1 := hb _ (q_at_mem (i := i) hn)
    have g2 := hb _ (q_at_mem (i := (i : Int) + 1) hn)
    have g4 : y_mI m 54 (i : Int).toNat = ((q_at w i : Nat) : Int) := by rw [g0]; exact e3 i (by omega)
    rw [y_E_232_4]
    simp (disch := omega) only [e1, z_w_id, if_neg, t_225 hw hn, e_bI, e_g, g4, t_212 hL hA hB h1 h2 g1 g2 hA' hB', e_bL]
    rw [show (i : Int) + 1 = ((i + 1 : Nat) : Int) by omega, ih (i + 1) _ (by omega), q_S, Int.add_assoc]
    rfl
theorem t_232 (hw : q_V m w) (hn : w ≠ []) (hb : ∀ h ∈ w, h < L + R) (hL : y_mI m 52 0 = (L : Int)) (hA : y_mI m 52 2 = (A : Int)) (hB : y_mI m 52 3 = (B : Int)) (h1 : L ≤ 6) (h2 : R ≤ 6) (hA' : A ≤ 99) (hB' : B ≤ 99) : y_V sp ph (d + 4) 232 [y_bo 11 0 49] m = y_rL (q_S (q_code L A B w) 0 w.length) m := by
  simp only [y_C_232, y_E_232_0, y_E_232_36]
  rw [show (0 : Int) = ((0 : Nat) : Int) from rfl, l_232 hw hn hb hL hA hB h1 h2 hA' hB' w.length 0 _ (by omega), show ((0 : Nat) : Int) = 0 from rfl, Int.zero_add]
theorem t_236 {x y : Int} {i o : Bool} : y_V sp ph (d + 1) 236 [y_bo 11 0 49, y_bi x, y_bi y, y_bi (n_b i), y_bi (n_b o)] m = y_rI ((x * 12 + y) * 4 + 2 * n_b i + n_b o) m := by
  simp only [y_C_236, y_E_236_0, y_E_236_16, y_E_236_17, y_E_236_27, y_E_236_28, e_nb0]
  cases i <;> cases o <;> simp [n_b]
theorem t_237 {n : Nat} (h : y_mI m 49 33 = (n : Int)) (h1 : 0 < n) (h2 : n ≤ 12) : y_V sp ph (d + 1) 237 [y_bo 11 0 49] m = y_rI ((2 ^ (n - 1) - 1 : Nat) : Int) m := by
  have hq : 0 < 2 ^ (n - 1) := Nat.pow_pos (by decide)
  simp only [y_C_237, y_E_237_0, h]
  rw [show (n : Int) - 1 = ((n - 1 : Nat) : Int) by omega, n_one (by omega), show ((2 ^ (n - 1) : Nat) : Int) - 1 = ((2 ^ (n - 1) - 1 : Nat) : Int) by omega]
end Ref
