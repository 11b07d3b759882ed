theorem q_S_le {f : Nat → Int} {M : Int} : ∀ (k i : Nat), (∀ j, i ≤ j → j < i + k → f j ≤ M) → q_S f i k ≤ k * M := by
  intro k
  induction k with
  | zero => intro i h; simp [q_S]
  | succ k ih =>
    intro i h
    have a := h i (by omega) (by omega)
    have b := ih (i + 1) (fun j h1 h2 => h j (by omega) (by omega))
    have e : ((k + 1 : Nat) : Int) * M = k * M + M := by rw [Int.natCast_add, Int.add_mul]; simp
    rw [q_S, e]
    omega
theorem c_N_b (L lw s sec : Nat) (first : Bool) : ∀ (f now : Nat) (i : Bool) (rest : Nat), 0 ≤ c_N L lw s sec first f now i rest ∧ c_N L lw s sec first f now i rest ≤ 12 ^ f := by
  intro f
  induction f with
  | zero =>
    intro now i rest
    rw [c_N]
    split <;> simp
  | succ f ih =>
    intro now i rest
    rw [c_N]
    have p : (0 : Int) ≤ 12 ^ f := Int.pow_nonneg (by decide)
    constructor
    · refine q_S_nonneg _ _ fun j _ _ => ?_
      split
      · exact (ih _ _ _).1
      · omega
    · rw [Int.pow_succ, Int.mul_comm]
      refine q_S_le 12 0 fun j _ _ => ?_
      split
      · exact (ih _ _ _).2
      · exact p
theorem c_12 {n : Nat} (h : n ≤ 12) : (12 : Int) ^ n ≤ 8916100448256 := by
  have := Nat.pow_le_pow_right (n := 12) (by decide) h
  have e : ((12 ^ n : Nat) : Int) = 12 ^ n := by simp
  rw [← e]
  have e2 : (12 : Nat) ^ 12 = 8916100448256 := by decide
  rw [e2] at this
  omega
theorem n_pop_le {x : Nat} (h : x < 4096) : n_pop x ≤ 12 := by
  have := n_pop_c h
  have b : c_c (fun k => x.testBit k) ≤ 12 * 1 := q_S_le 12 0 fun j _ _ => n_b_r.2
  omega
theorem c_f1_b {L lw s rest : Nat} (hr : rest < 4096) (h : Nat) : 0 ≤ c_f1 L lw s rest h ∧ c_f1 L lw s rest h ≤ 8916100448256 := by
  unfold c_f1
  have b := c_N_b L lw s h (r_x L s h) (n_pop rest - 1) h (r_x L s h) (w_rm rest h)
  have := c_12 (n := n_pop rest - 1) (by have := n_pop_le hr; omega)
  split <;> omega
theorem c_f2_b {L lw s sec rest last : Nat} {first i : Bool} (hr : rest < 4096) (h : Nat) : 0 ≤ c_f2 L lw s sec first rest last i h ∧ c_f2 L lw s sec first rest last i h ≤ 8916100448256 := by
  unfold c_f2
  have b := c_N_b L lw s sec first (n_pop rest - 1) h (r_x L last h) (w_rm rest h)
  have := c_12 (n := n_pop rest - 1) (by have := n_pop_le hr; omega)
  split <;> omega
/-- the first step at which a number is used up -/
def c_pk (f : Nat → Int) : Nat → Nat → Int → Nat × Int
  | 0, h, left => (h, left)
  | n + 1, h, left => if left < f h then (h, left) else c_pk f n (h + 1) (left - f h)
theorem c_pk_b {f : Nat → Int} (hf : ∀ j, 0 ≤ f j) : ∀ (n h : Nat) (left : Int), 0 ≤ left → 0 ≤ (c_pk f n h left).2 ∧ (c_pk f n h left).2 ≤ left ∧ h ≤ (c_pk f n h left).1 ∧ (c_pk f n h left).1 ≤ h + n ∧ ((c_pk f n h left).1 < h + n → (c_pk f n h left).2 < f (c_pk f n h left).1) := by
  intro n
  induction n with
  | zero => intro h left hl; rw [c_pk]; exact ⟨hl, Int.le_refl _, Nat.le_refl _, Nat.le_refl _, fun q => absurd q (by simp)⟩
  | succ n ih =>
    intro h left hl
    rw [c_pk]
    by_cases c : left < f h
    · rw [if_pos c]; exact ⟨hl, Int.le_refl _, Nat.le_refl _, by simp, fun _ => c⟩
    · rw [if_neg c]
      obtain ⟨x1, x2, x3, x4, x5⟩ := ih (h + 1) (left - f h) (by omega)
      have := hf h
      exact ⟨x1, by omega, by omega, by omega, fun q => x5 (by omega)⟩
def c_un2 (L lw s sec : Nat) (first : Bool) : Nat → Nat → Bool → Nat → Int → Option (List Nat)
  | 0, _, _, _, _ => some []
  | n + 1, last, i, rest, left =>
    if (c_pk (c_f2 L lw s sec first rest last i) 12 0 left).1 < 12 then
      (c_un2 L lw s sec first n (c_pk (c_f2 L lw s sec first rest last i) 12 0 left).1 (r_x L last (c_pk (c_f2 L lw s sec first rest last i) 12 0 left).1) (w_rm rest (c_pk (c_f2 L lw s sec first rest last i) 12 0 left).1) (c_pk (c_f2 L lw s sec first rest last i) 12 0 left).2).map (fun t => (c_pk (c_f2 L lw s sec first rest last i) 12 0 left).1 :: t)
    else none
def c_un1 (L lw s rest : Nat) (left : Int) : Option (List Nat) :=
  if (c_pk (c_f1 L lw s rest) 12 0 left).1 < 12 then
    (c_un2 L lw s (c_pk (c_f1 L lw s rest) 12 0 left).1 (r_x L s (c_pk (c_f1 L lw s rest) 12 0 left).1) (n_pop rest - 1) (c_pk (c_f1 L lw s rest) 12 0 left).1 (r_x L s (c_pk (c_f1 L lw s rest) 12 0 left).1) (w_rm rest (c_pk (c_f1 L lw s rest) 12 0 left).1) (c_pk (c_f1 L lw s rest) 12 0 left).2).map (fun t => (c_pk (c_f1 L lw s rest) 12 0 left).1 :: t)
  else none
theorem q_W_add {m : y_m} {a k h : Nat} {w : List Nat} (hW : q_W m a w) (hk : w.length = k) (h12 : k < 12) : q_W (y_sI (y_sI m (a + 1) k h) a 1 ((k : Int) + 1)) a (w ++ [h]) := by
  obtain ⟨e1, e2, e3⟩ := hW
  refine ⟨?_, by simp; omega, fun i hi => ?_⟩
  · rw [e_II]; simp; omega
  · simp at hi
    rw [e_II' (by omega)]
    by_cases q : i = k
    · subst q
      rw [e_II, List.getD_eq_getElem?_getD, List.getElem?_append_right (by omega), hk]
      simp
    · rw [e_II' (by omega), e3 i (by omega), List.getD_eq_getElem?_getD, List.getD_eq_getElem?_getD, List.getElem?_append_left (by omega)]
theorem q_at_last {w : List Nat} {h k : Nat} (hk : w.length = k) : q_at (w ++ [h]) (k : Int) = h := by
  rw [q_at_nat (by simp; omega), List.getD_eq_getElem?_getD, List.getElem?_append_right (by omega), hk]
  simp
section Unrank
variable {sp : Nat → Nat} {ph : Bool} {d : Nat} {m : y_m} {a b L R lw s sec : Nat} {first : Bool} {w : List Nat}
theorem l_93a {rest : Nat} (hb : b ≠ 6) (ha : 8 ≤ a) (hr : rest < 4096) (hR : ∀ j, rest.testBit j = true → j < L + R) : ∀ (n h : Nat) (left : Int) (m : y_m), h + n = 12 → 0 ≤ left → left < 9223372036854775808 → c_Cy m b L R lw s → ∃ m', y_R sp ph (d + 5) 93 80 [some (y_bo 1 0 6), some (y_bo 0 0 b), none, none, none, some (y_bo 8 0 a), some (y_bi (rest : Int)), some (y_bi (-1)), some (y_bl left), none, some (y_bi 1), some (y_bi (s : Int)), some (y_bi (h : Int)), some (y_bl (c_f1 L lw s rest h)), none] [] m = y_R sp ph (d + 5) 93 123 [some (y_bo 1 0 6), some (y_bo 0 0 b), none, none, none, some (y_bo 8 0 a), some (y_bi (rest : Int)), some (y_bi (-1)), some (y_bl (c_pk (c_f1 L lw s rest) n h left).2), none, some (y_bi 1), some (y_bi (s : Int)), some (y_bi ((c_pk (c_f1 L lw s rest) n h left).1 : Int)), none, none] [] m' ∧ q_F (fun a k => a = 6 ∧ (k = 3 ∨ k = 4)) m m' ∧ c_Cy m' b L R lw s := by
  intro n
  induction n with
  | zero =>
    intro h left m hh h0 h1 hc
    have : h = 12 := by omega
    subst this
    refine ⟨m, ?_, q_F_refl, hc⟩
    rw [y_E_93_80, c_pk]
    simp (disch := omega) only [z_w_id, if_pos, if_neg, e_g, e_bI, e_bV, e_bL, e_II, e_II', e_IJ, e_JI, e_JJ, e_JJ', reduceIte, not_true_eq_false, not_false_eq_true, true_or, or_true, true_and, and_true, e_nb0, e_gT]
  | succ n ih =>
    intro h left m hh h0 h1 hc
    have bd := c_f1_b (L := L) (lw := lw) (s := s) hr h
    rw [c_pk]
    by_cases c : left < c_f1 L lw s rest h
    · refine ⟨m, ?_, q_F_refl, hc⟩
      rw [y_E_93_80, if_pos c]
      simp (disch := omega) only [z_w_id, if_pos, if_neg, e_g, e_bI, e_bV, e_bL, e_II, e_II', e_IJ, e_JI, e_JJ, e_JJ', reduceIte, not_true_eq_false, not_false_eq_true, true_or, or_true, true_and, and_true, e_nb0, e_gT, n_lc_lt]
    · obtain ⟨m1, a1, a2, a3⟩ := s_96b (sp := sp) (ph := ph) (d := d + 1) (h := h + 1) hb hc (by omega) hr hR
      obtain ⟨m2, b1, b2, b3⟩ := ih (h + 1) (left - c_f1 L lw s rest h) m1 (by omega) (by omega) (by omega) a3
      refine ⟨m2, ?_, q_F_trans a2 b2, b3⟩
      have a1' : y_V sp ph (d + 5) 96 [y_bo 1 0 6, y_bo 0 0 b, y_bi (s : Int), y_bi (-1), y_bi ((h : Int) + 1), y_bi (rest : Int)] m = _ := a1
      rw [y_E_93_80, if_neg c]
      simp (disch := omega) only [z_w_id, if_pos, if_neg, e_g, e_bI, e_bV, e_bL, e_II, e_II', e_IJ, e_JI, e_JJ, e_JJ', reduceIte, not_true_eq_false, not_false_eq_true, true_or, or_true, true_and, and_true, e_nb0, e_gT, n_lc_lt, a1']
      exact b1
theorem l_93b {rest last k : Nat} {i : Bool} (hl : last < 12) (hr : rest < 4096) (hR : ∀ j, rest.testBit j = true → j < L + R) (hc : c_Cx m b L R lw s sec first) : ∀ (n h : Nat) (left : Int), h + n = 12 → 0 ≤ left → left < 9223372036854775808 → y_R sp ph (d + 5) 93 80 [some (y_bo 1 0 6), some (y_bo 0 0 b), none, none, none, some (y_bo 8 0 a), some (y_bi (rest : Int)), some (y_bi (n_b i)), some (y_bl left), none, some (y_bi (k : Int)), some (y_bi (last : Int)), some (y_bi (h : Int)), some (y_bl (c_f2 L lw s sec first rest last i h)), none] [] m = y_R sp ph (d + 5) 93 123 [some (y_bo 1 0 6), some (y_bo 0 0 b), none, none, none, some (y_bo 8 0 a), some (y_bi (rest : Int)), some (y_bi (n_b i)), some (y_bl (c_pk (c_f2 L lw s sec first rest last i) n h left).2), none, some (y_bi (k : Int)), some (y_bi (last : Int)), some (y_bi ((c_pk (c_f2 L lw s sec first rest last i) n h left).1 : Int)), none, none] [] m := by
  intro n
  induction n with
  | zero =>
    intro h left hh h0 h1
    have : h = 12 := by omega
    subst this
    rw [y_E_93_80, c_pk]
    simp (disch := omega) only [z_w_id, if_pos, if_neg, e_g, e_bI, e_bV, e_bL, e_II, e_II', e_IJ, e_JI, e_JJ, e_JJ', reduceIte, not_true_eq_false, not_false_eq_true, true_or, or_true, true_and, and_true, e_nb0, e_gT]
  | succ n ih =>
    intro h left hh h0 h1
    have bd := c_f2_b (L := L) (lw := lw) (s := s) (sec := sec) (first := first) (last := last) (i := i) hr h
    rw [c_pk]
    by_cases c : left < c_f2 L lw s sec first rest last i h
    · rw [y_E_93_80, if_pos c]
      simp (disch := omega) only [z_w_id, if_pos, if_neg, e_g, e_bI, e_bV, e_bL, e_II, e_II', e_IJ, e_JI, e_JJ, e_JJ', reduceIte, not_true_eq_false, not_false_eq_true, true_or, or_true, true_and, and_true, e_nb0, e_gT, n_lc_lt]
    · have a1 := s_96a (sp := sp) (ph := ph) (d := d + 1) (i := i) hc (show h + 1 ≤ 12 by omega) hl hr hR
      have a1' : y_V sp ph (d + 5) 96 [y_bo 1 0 6, y_bo 0 0 b, y_bi (last : Int), y_bi (n_b i), y_bi ((h : Int) + 1), y_bi (rest : Int)] m = _ := a1
      rw [y_E_93_80, if_neg c]
      simp (disch := omega) only [z_w_id, if_pos, if_neg, e_g, e_bI, e_bV, e_bL, e_II, e_II', e_IJ, e_JI, e_JJ, e_JJ', reduceIte, not_true_eq_false, not_false_eq_true, true_or, or_true, true_and, and_true, e_nb0, e_gT, n_lc_lt, a1']
      exact ih (h + 1) (left - c_f2 L lw s sec first rest last i h) (by omega) (by omega) (by omega)
end Unrank
