/-! ===== what a boot, a way says: the class's readings of it ===== -/
def n_b (b : Bool) : Int := if b then 1 else 0
theorem e_nb0 {b : Bool} : (z_w (n_b b) = 0) = (b = false) := by cases b <;> exact propext (by decide)
theorem e_nb1 {b : Bool} : (z_w (n_b b) = 1) = (b = true) := by cases b <;> exact propext (by decide)
theorem e_nbt {b : Bool} : n_b b = 0 ∨ n_b b = 1 := by cases b <;> decide
theorem n_b_r {b : Bool} : 0 ≤ n_b b ∧ n_b b ≤ 1 := by cases b <;> decide
theorem e_nbz {b : Bool} : z_w (n_b b) = n_b b := by cases b <;> decide
theorem n_b_if {p : Prop} [Decidable p] : (if p then (1 : Int) else 0) = n_b (decide p) := by by_cases h : p <;> simp [h, n_b]
theorem e_gT {i : Decidable True} {r : y_Rs} : @y_g True i r = r := by unfold y_g; rw [if_pos trivial]
/-- the place of a hole in its row, whether a span goes across, what the law allows -/
def r_row (L h : Nat) : Nat := if h < L then h else h - L
def r_x (L a b : Nat) : Bool := decide (a < L) != decide (b < L)
def r_may (lw : Nat) (i o : Bool) : Bool := match lw with
  | 0 => true
  | 1 => i || o
  | _ => i != o
theorem r_x_comm (L a b : Nat) : r_x L a b = r_x L b a := by unfold r_x; cases decide (a < L) <;> cases decide (b < L) <;> rfl
theorem r_may_comm (lw : Nat) (i o : Bool) : r_may lw i o = r_may lw o i := by
  unfold r_may; split <;> cases i <;> cases o <;> rfl
/-- a way: its holes, counted on and on -/
def q_at (w : List Nat) (i : Int) : Nat := w.getD (i % (w.length : Int)).toNat 0
def q_W (m : y_m) (a : Nat) (w : List Nat) : Prop := y_mI m a 1 = (w.length : Int) ∧ w.length ≤ 12 ∧ ∀ i, i < w.length → y_mI m (a + 1) i = ((w.getD i 0 : Nat) : Int)
theorem q_at_nat {w : List Nat} {i : Nat} (h : i < w.length) : q_at w (i : Int) = w.getD i 0 := by
  unfold q_at
  rw [← Int.natCast_emod, Int.toNat_natCast, Nat.mod_eq_of_lt h]
theorem q_at_mem {w : List Nat} {i : Int} (h : w ≠ []) : q_at w i ∈ w := by
  have hl : 0 < w.length := List.length_pos_iff.mpr h
  have h1 : 0 ≤ i % (w.length : Int) := Int.emod_nonneg _ (by omega)
  have h2 : i % (w.length : Int) < w.length := Int.emod_lt_of_pos _ (by omega)
  unfold q_at
  rw [List.getD_eq_getElem?_getD, List.getElem?_eq_getElem (by omega)]
  exact List.getElem_mem _
section Boot
variable {sp : Nat → Nat} {ph : Bool} {d : Nat} {m : y_m} {a L R t lw : Nat}
theorem s_38 : y_V sp ph (d + 1) 38 [y_bo 0 0 a] m = y_rI (y_mI m a 0 + y_mI m a 1) m := by simp only [y_C_38, y_E_38_0]
theorem s_39 {x : Int} (hL : y_mI m a 0 = (L : Int)) (hR : y_mI m a 1 = (R : Int)) (h1 : L ≤ 6) (h2 : R ≤ 6) (hx : -2147483648 ≤ x) (hx' : x < 2147483648) : y_V sp ph (d + 2) 39 [y_bo 0 0 a, y_bi x] m = y_rI (n_b (decide (0 ≤ x ∧ x < (L + R : Int)))) m := by
  by_cases h : x < 0
  · simp (disch := omega) only [y_C_39, y_E_39_0, y_E_39_16, y_E_39_17, z_w_id, if_pos, e_g]
    rw [decide_eq_false (by omega)]; rfl
  · by_cases h' : (L + R : Int) ≤ x
    · simp (disch := omega) only [y_C_39, y_E_39_0, y_E_39_16, y_E_39_17, s_38, e_bI, hL, hR, z_w_id, if_pos, if_neg, e_g]
      rw [decide_eq_false (by omega)]; rfl
    · simp (disch := omega) only [y_C_39, y_E_39_0, y_E_39_16, y_E_39_17, s_38, e_bI, hL, hR, z_w_id, if_neg, e_g]
      rw [decide_eq_true (by omega)]; rfl
theorem s_40 {x : Nat} (ht : y_mI m a 4 = (t : Int)) (h : t < 4096) (hx : x < 32) : y_V sp ph (d + 1) 40 [y_bo 0 0 a, y_bi (x : Int)] m = y_rI (n_b (t.testBit x)) m := by
  simp (disch := omega) only [y_C_40, y_E_40_0, y_E_40_15, y_E_40_16, ht, n_bit]
  cases t.testBit x <;> rfl
theorem s_41 (hL : y_mI m a 0 = (L : Int)) (hR : y_mI m a 1 = (R : Int)) (ht : y_mI m a 4 = (t : Int)) (h1 : L ≤ 6) (h2 : R ≤ 6) (h : t < 4096) : y_V sp ph (d + 2) 41 [y_bo 0 0 a] m = y_rI (n_bd (2 ^ (L + R) - 1) t : Int) m := by
  have hp : 2 ^ (L + R) ≤ 2 ^ 12 := Nat.pow_le_pow_right (by decide) (by omega)
  have hq : 0 < 2 ^ (L + R) := Nat.pow_pos (by decide)
  simp only [y_C_41, y_E_41_0, s_38, e_bI, hL, hR, ht]
  rw [show (L : Int) + (R : Int) = ((L + R : Nat) : Int) by omega, n_one (by omega), show ((2 ^ (L + R) : Nat) : Int) - 1 = ((2 ^ (L + R) - 1 : Nat) : Int) by omega, n_not (by omega) (by omega)]
theorem s_42 (hL : y_mI m a 0 = (L : Int)) (hR : y_mI m a 1 = (R : Int)) (ht : y_mI m a 4 = (t : Int)) (h1 : L ≤ 6) (h2 : R ≤ 6) (h : t < 4096) : y_V sp ph (d + 1) 42 [y_bo 0 0 a] m = y_rI (n_b (decide (L = R ∧ t = 0))) m := by
  by_cases hx : L = R
  · by_cases hy : t = 0
    · simp (disch := omega) only [y_C_42, y_E_42_0, y_E_42_22, y_E_42_23, hL, hR, ht, z_w_id, if_neg, e_g]
      rw [decide_eq_true ⟨hx, hy⟩]; rfl
    · simp (disch := omega) only [y_C_42, y_E_42_0, y_E_42_22, y_E_42_23, hL, hR, ht, z_w_id, if_neg, if_pos, e_g]
      rw [decide_eq_false (by omega)]; rfl
  · simp (disch := omega) only [y_C_42, y_E_42_0, y_E_42_22, y_E_42_23, hL, hR, ht, z_w_id, if_pos, e_g]
    rw [decide_eq_false (by omega)]; rfl
theorem s_43 {x : Nat} (hL : y_mI m a 0 = (L : Int)) (h1 : L ≤ 6) (hx : x < 1000) : y_V sp ph (d + 1) 43 [y_bo 0 0 a, y_bi (x : Int)] m = y_rI (n_b (decide (¬ x < L))) m := by
  by_cases h : x < L
  · simp (disch := omega) only [y_C_43, y_E_43_0, y_E_43_12, y_E_43_13, hL, z_w_id, if_neg]
    rw [decide_eq_false (by omega)]; rfl
  · simp (disch := omega) only [y_C_43, y_E_43_0, y_E_43_12, y_E_43_13, hL, z_w_id, if_pos]
    rw [decide_eq_true (by omega)]; rfl
theorem s_44 {x : Nat} (hL : y_mI m a 0 = (L : Int)) (h1 : L ≤ 6) (hx : x < 1000) : y_V sp ph (d + 1) 44 [y_bo 0 0 a, y_bi (x : Int)] m = y_rI (r_row L x : Int) m := by
  unfold r_row
  by_cases h : x < L
  · simp (disch := omega) only [y_C_44, y_E_44_0, y_E_44_12, y_E_44_18, hL, z_w_id, if_neg, if_pos]
  · simp (disch := omega) only [y_C_44, y_E_44_0, y_E_44_12, y_E_44_18, hL, z_w_id, if_pos, if_neg]
    rw [show ((x - L : Nat) : Int) = (x : Int) - L by omega]
theorem s_45 {x y : Nat} (hL : y_mI m a 0 = (L : Int)) (h1 : L ≤ 6) (hx : x < 1000) (hy : y < 1000) : y_V sp ph (d + 2) 45 [y_bo 0 0 a, y_bi (x : Int), y_bi (y : Int)] m = y_rI (n_b (r_x L x y)) m := by
  simp only [y_C_45, y_E_45_0, y_E_45_17, y_E_45_18, s_43 hL h1 hx, s_43 hL h1 hy, e_bI]
  unfold r_x
  by_cases h : x < L <;> by_cases h' : y < L <;> simp [h, h', n_b]
  · intro q; exact absurd q (by decide)
  · intro q; exact absurd q (by decide)
theorem s_46 {i o : Bool} (hw : y_mI m a 5 = (lw : Int)) (h2 : lw ≤ 2) : y_V sp ph (d + 1) 46 [y_bo 0 0 a, y_bi (n_b i), y_bi (n_b o)] m = y_rI (n_b (r_may lw i o)) m := by
  have h3 : lw = 0 ∨ lw = 1 ∨ lw = 2 := by omega
  have hi := n_b_r (b := i)
  have ho := n_b_r (b := o)
  rcases h3 with rfl | rfl | rfl
  · simp (disch := omega) only [y_C_46, y_E_46_0, y_E_46_9, y_E_46_28, y_E_46_32, y_E_46_43, y_E_46_44, hw, z_w_id, if_neg, r_may]; rfl
  · simp (disch := omega) only [y_C_46, y_E_46_0, y_E_46_9, y_E_46_28, y_E_46_32, y_E_46_43, y_E_46_44, hw, z_w_id, if_neg, if_pos, r_may]
    cases i <;> cases o <;> rfl
  · simp (disch := omega) only [y_C_46, y_E_46_0, y_E_46_9, y_E_46_28, y_E_46_32, y_E_46_43, y_E_46_44, hw, z_w_id, if_pos, r_may]
    cases i <;> cases o <;> rfl
variable {w : List Nat}
theorem s_62 : y_V sp ph (d + 1) 62 [y_bo 8 0 a] m = y_rV (y_sI m a 1 0) := by simp only [y_C_62, y_E_62_0]
theorem s_63 {x : Int} (h0 : 0 ≤ y_mI m a 1) (h : y_mI m a 1 < 12) : y_V sp ph (d + 2) 63 [y_bo 8 0 a, y_bi x] m = y_rV (y_sI (y_sI m (a + 1) (y_mI m a 1).toNat x) a 1 (y_mI m a 1 + 1)) := by
  simp (disch := omega) only [y_C_63, y_E_63_0, y_E_63_31, z_w_id, if_neg, s_8, e_bV, e_II']
theorem s_65 {i : Int} (hw : q_W m a w) (hn : w ≠ []) (h1 : -32 ≤ i) (h2 : i < 32) : y_V sp ph (d + 2) 65 [y_bo 8 0 a, y_bi i] m = y_rI (q_at w i : Int) m := by
  obtain ⟨e1, e2, e3⟩ := hw
  have hl : 0 < w.length := List.length_pos_iff.mpr hn
  have h3 : 0 ≤ i % (w.length : Int) := Int.emod_nonneg _ (by omega)
  have h4 : i % (w.length : Int) < w.length := Int.emod_lt_of_pos _ (by omega)
  simp (disch := omega) only [y_C_65, y_E_65_0, y_E_65_12, y_E_65_27, e1, z_w_id, if_pos, s_2, e_bI, s_7]
  rw [e3 _ (by omega)]; rfl
theorem s_65n {i : Int} (hw : y_mI m a 1 = 0) : y_V sp ph (d + 2) 65 [y_bo 8 0 a, y_bi i] m = y_rI (-1) m := by
  simp (disch := omega) only [y_C_65, y_E_65_0, y_E_65_12, y_E_65_27, hw, z_w_id, if_neg]
theorem s_66 {i x : Int} (h1 : 0 ≤ i) (h2 : i < 12) : y_V sp ph (d + 2) 66 [y_bo 8 0 a, y_bi i, y_bi x] m = y_rV (y_sI m (a + 1) i.toNat x) := by
  simp (disch := omega) only [y_C_66, y_E_66_0, s_8, e_bV]
/-- the bits of a way's holes -/
def q_bits (w : List Nat) : Nat := w.foldl (fun b h => b ||| 1 <<< h) 0
theorem l_67 (hw : q_W m a w) (hb : ∀ h ∈ w, h < 12) : ∀ (k i : Nat) (b : Nat), i + k = w.length → b < 4096 → y_R sp ph (d + 2) 67 4 [some (y_bo 8 0 a), some (y_bi (b : Int)), some (y_bi (i : Int))] [] m = y_rI ((((w.drop i).foldl (fun b h => b ||| 1 <<< h) b : Nat)) : Int) m := by
  have hw' := hw
  obtain ⟨e1, e2, e3⟩ := hw
  intro k
  induction k with
  | zero =>
    intro i b h hb4
    rw [y_E_67_4]
    simp (disch := omega) only [e1, z_w_id, if_pos, y_E_67_28]
    rw [List.drop_eq_nil_of_le (by omega)]; rfl
  | succ k ih =>
    intro i b h hb4
    have hi : i < w.length := by omega
    have hn : w ≠ [] := by intro q; rw [q] at hi; exact absurd hi (Nat.not_lt_zero _)
    have hg : w.getD i 0 < 12 := by
      rw [← q_at_nat hi]; exact hb _ (q_at_mem hn)
    have hpow : 1 <<< w.getD i 0 < 2 ^ 12 := by rw [Nat.one_shiftLeft]; exact Nat.pow_lt_pow_right (by decide) hg
    have hor : b ||| 1 <<< w.getD i 0 < 2 ^ 12 := Nat.or_lt_two_pow hb4 hpow
    rw [y_E_67_4]
    simp (disch := omega) only [e1, z_w_id, if_neg, s_65 hw' hn, e_bI]
    rw [q_at_nat hi, show (1 : Int) = ((1 : Nat) : Int) from rfl, n_ishl (by omega) (by omega), n_ior (by omega) (by omega), show (i : Int) + ((1 : Nat) : Int) = ((i + 1 : Nat) : Int) by omega, ih (i + 1) _ (by omega) hor, List.drop_eq_getElem_cons hi, List.foldl_cons]
    rw [List.getD_eq_getElem?_getD, List.getElem?_eq_getElem hi]; rfl
theorem s_67 (hw : q_W m a w) (hb : ∀ h ∈ w, h < 12) : y_V sp ph (d + 3) 67 [y_bo 8 0 a] m = y_rI (q_bits w : Int) m := by
  simp only [y_C_67, y_E_67_0, y_E_67_28]
  exact l_67 hw hb w.length 0 0 (by omega) (by omega)
/-- where a hole is in a way -/
def q_find (w : List Nat) (h : Nat) : Int := if h ∈ w then (w.idxOf h : Int) else -1
theorem l_68 {x : Nat} (hw : q_W m a w) (hb : ∀ h ∈ w, h < 12) (hx : x < 1000) : ∀ (k i : Nat), i + k = w.length → y_R sp ph (d + 1) 68 2 [some (y_bo 8 0 a), some (y_bi (x : Int)), some (y_bi (i : Int))] [] m = y_rI (if x ∈ w.drop i then ((i + (w.drop i).idxOf x : Nat) : Int) else -1) m := by
  obtain ⟨e1, e2, e3⟩ := hw
  intro k
  induction k with
  | zero =>
    intro i h
    rw [y_E_68_2]
    simp (disch := omega) only [e1, z_w_id, if_pos, y_E_68_30]
    rw [List.drop_eq_nil_of_le (by omega)]; rfl
  | succ k ih =>
    intro i h
    have hi : i < w.length := by omega
    have hg : w.getD i 0 = w[i] := by rw [List.getD_eq_getElem?_getD, List.getElem?_eq_getElem hi]; rfl
    have hg2 : w.getD i 0 < 12 := by rw [hg]; exact hb _ (List.getElem_mem _)
    rw [y_E_68_2]
    simp (disch := omega) only [e1, z_w_id, if_neg, s_7, e_bI]
    rw [Int.toNat_natCast, e3 i hi, List.drop_eq_getElem_cons hi, ← hg]
    by_cases hq : w.getD i 0 = x
    · simp (disch := omega) only [z_w_id, if_neg]
      rw [if_pos (by rw [hq]; exact List.mem_cons_self), hq, List.idxOf_cons_self]; rfl
    · simp (disch := omega) only [z_w_id, if_pos, y_E_68_24]
      rw [show (i : Int) + 1 = ((i + 1 : Nat) : Int) by omega, ih (i + 1) (by omega)]
      by_cases hm : x ∈ w.drop (i + 1)
      · rw [if_pos hm, if_pos (List.mem_cons_of_mem _ hm), List.idxOf_cons, show (w.getD i 0 == x) = false from beq_eq_false_iff_ne.mpr hq, cond_false]
        rw [show i + 1 + List.idxOf x (List.drop (i + 1) w) = i + (List.idxOf x (List.drop (i + 1) w) + 1) by omega]
      · rw [if_neg hm, if_neg]
        intro q
        rcases List.mem_cons.mp q with q | q
        · exact hq q.symm
        · exact hm q
theorem s_68 {x : Nat} (hw : q_W m a w) (hb : ∀ h ∈ w, h < 12) (hx : x < 1000) : y_V sp ph (d + 2) 68 [y_bo 8 0 a, y_bi (x : Int)] m = y_rI (q_find w x) m := by
  have h := l_68 (sp := sp) (ph := ph) (d := d) hw hb hx w.length 0 (by omega)
  simp only [y_C_68, y_E_68_0, y_E_68_24, y_E_68_30]
  rw [show (0 : Int) = ((0 : Nat) : Int) from rfl, h]
  unfold q_find
  rw [List.drop_zero, Nat.zero_add]
end Boot
