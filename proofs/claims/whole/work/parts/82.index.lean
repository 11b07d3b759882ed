/-! ===== the reference's holes by their places among the given ones ===== -/
def r_ix (S h : Nat) : Nat := ((List.range h).filter (fun i => S.testBit i)).length
def r_hs (S j : Nat) : Nat := (n_bits S).getD j 0
theorem r_ix_succ (S h : Nat) : r_ix S (h + 1) = r_ix S h + (if S.testBit h = true then 1 else 0) := by
  unfold r_ix
  rw [List.range_succ, List.filter_append, List.length_append]
  congr 1
  cases q : S.testBit h
  · rw [List.filter_cons_of_neg (by simp [q])]; simp
  · rw [List.filter_cons_of_pos (by simp [q])]; simp
theorem r_ix_mono (S : Nat) {h : Nat} : ∀ n, r_ix S h ≤ r_ix S (h + n) := by
  intro n
  induction n with
  | zero => exact Nat.le_refl _
  | succ n ih => rw [← Nat.add_assoc, r_ix_succ]; omega
theorem r_ix_le {S h k : Nat} (hk : h ≤ k) : r_ix S h ≤ r_ix S k := by
  have := r_ix_mono S (h := h) (k - h)
  rw [show h + (k - h) = k by omega] at this
  exact this
theorem r_ix_lt {S h k : Nat} (hb : S.testBit h = true) (hk : h < k) : r_ix S h < r_ix S k := by
  have a := r_ix_succ S h
  rw [if_pos hb] at a
  have := r_ix_le (S := S) (show h + 1 ≤ k by omega)
  omega
theorem r_ix_12 (S : Nat) : r_ix S 12 = n_pop S := rfl
theorem r_A {S h : Nat} (hb : S.testBit h = true) : ∀ n, ((List.range (h + 1 + n)).filter (fun i => S.testBit i)).getD (r_ix S h) 0 = h := by
  intro n
  induction n with
  | zero =>
    unfold r_ix
    rw [Nat.add_zero, List.range_succ, List.filter_append, List.getD_eq_getElem?_getD, List.getElem?_append_right (Nat.le_refl _)]
    rw [List.filter_cons_of_pos (by simp [hb])]
    rw [Nat.sub_self]
    rfl
  | succ n ih =>
    rw [← Nat.add_assoc, List.range_succ, List.filter_append, List.getD_eq_getElem?_getD, List.getElem?_append_left]
    · rw [← List.getD_eq_getElem?_getD]; exact ih
    · exact r_ix_lt hb (by omega)
theorem r_hs_ix {S h : Nat} (hb : S.testBit h = true) (hh : h < 12) : r_hs S (r_ix S h) = h := by
  have := r_A hb (12 - (h + 1))
  rw [show h + 1 + (12 - (h + 1)) = 12 by omega] at this
  exact this
theorem r_hs_ex (S : Nat) : ∀ N j, j < r_ix S N → ∃ h, h < N ∧ S.testBit h = true ∧ r_ix S h = j := by
  intro N
  induction N with
  | zero => intro j hj; exact absurd hj (Nat.not_lt_zero _)
  | succ N ih =>
    intro j hj
    rw [r_ix_succ] at hj
    by_cases q : j < r_ix S N
    · obtain ⟨h, a, b, c⟩ := ih j q
      exact ⟨h, by omega, b, c⟩
    · by_cases q2 : S.testBit N = true
      · rw [if_pos q2] at hj
        exact ⟨N, by omega, q2, by omega⟩
      · rw [if_neg q2] at hj; omega
theorem r_hs_B {S j : Nat} (hj : j < n_pop S) : r_hs S j < 12 ∧ S.testBit (r_hs S j) = true ∧ r_ix S (r_hs S j) = j := by
  obtain ⟨h, a, b, c⟩ := r_hs_ex S 12 j hj
  have e := r_hs_ix b a
  rw [c] at e
  rw [e]
  exact ⟨a, b, c⟩
theorem r_hs_lt {S i j : Nat} (hi : i < n_pop S) (hj : j < n_pop S) : r_hs S i < r_hs S j ↔ i < j := by
  obtain ⟨a1, a2, a3⟩ := r_hs_B hi
  obtain ⟨b1, b2, b3⟩ := r_hs_B hj
  constructor
  · intro q
    have := r_ix_lt a2 q
    omega
  · intro q
    rcases Nat.lt_or_ge (r_hs S i) (r_hs S j) with x | x
    · exact x
    · have := r_ix_le (S := S) x
      omega
theorem q_S_end (f : Nat → Int) : ∀ (k i : Nat), q_S f i (k + 1) = q_S f i k + f (i + k) := by
  intro k
  induction k with
  | zero => intro i; simp [q_S]
  | succ k ih =>
    intro i
    rw [q_S, ih (i + 1), q_S, show i + 1 + k = i + (k + 1) by omega]
    omega
theorem q_S_ix {S : Nat} (G : Nat → Int) : ∀ N, N ≤ 12 → q_S (fun h => if S.testBit h = true then G h else 0) 0 N = q_S (fun j => G (r_hs S j)) 0 (r_ix S N) := by
  intro N
  induction N with
  | zero => intro _; rfl
  | succ N ih =>
    intro hN
    rw [q_S_end, ih (by omega), r_ix_succ, Nat.zero_add]
    by_cases q : S.testBit N = true
    · rw [if_pos q, if_pos q, q_S_end, Nat.zero_add, r_hs_ix q (by omega)]
    · rw [if_neg q, if_neg q, Nat.add_zero, Int.add_zero]
/-- the reference's array of holes -/
def r_H (m : y_m) (S : Nat) : Prop := y_mI m 49 33 = n_pop S ∧ ∀ j, j < n_pop S → y_mI m 94 j = r_hs S j
section Index
variable {sp : Nat → Nat} {ph : Bool} {d : Nat} {m : y_m} {L R lw s S : Nat}
theorem l_235 (hS : S < 4096) : ∀ (n h : Nat) (m : y_m), h + n = 12 → y_mI m 49 33 = r_ix S h → (∀ j, j < r_ix S h → y_mI m 94 j = r_hs S j) → ∃ m', y_R sp ph d 235 7 [some (y_bo 11 0 49), some (y_bi (S : Int)), some (y_bi (h : Int))] [] m = y_rV m' ∧ q_F (fun a k => (a = 49 ∧ k = 33) ∨ a = 94) m m' ∧ r_H m' S := by
  intro n
  induction n with
  | zero =>
    intro h m hh h1 h2
    have : h = 12 := by omega
    subst this
    refine ⟨m, ?_, q_F_refl, h1, h2⟩
    rw [y_E_235_7]
    simp (disch := omega) only [z_w_id, if_pos, if_neg, e_g, e_bI, e_bV, e_bL, e_II, e_II', e_IJ, e_JI, e_JJ, e_JJ', reduceIte, not_true_eq_false, not_false_eq_true, true_or, or_true, true_and, and_true, e_nb0, e_gT, y_E_235_50]
  | succ n ih =>
    intro h m hh h1 h2
    have hx := r_ix_succ S h
    have h12 : r_ix S h ≤ h := by
      have := List.length_filter_le (fun i => S.testBit i) (List.range h)
      rw [List.length_range] at this
      exact this
    by_cases q : S.testBit h = true
    · rw [if_pos q] at hx
      have hF : q_F (fun a k => (a = 49 ∧ k = 33) ∨ a = 94) m (y_sI (y_sI m 94 (r_ix S h) h) 49 33 ((r_ix S h : Int) + 1)) := q_F_trans (q_F_sI (by omega)) (q_F_sI (by omega))
      obtain ⟨m2, b1, b2, b3⟩ := ih (h + 1) (y_sI (y_sI m 94 (r_ix S h) h) 49 33 ((r_ix S h : Int) + 1)) (by omega) (by rw [e_II, hx]; omega) (fun j hj => by
        rw [e_II' (by omega)]
        by_cases e : j = r_ix S h
        · rw [e, e_II, r_hs_ix q (by omega)]
        · rw [e_II' (by omega)]; exact h2 j (by omega))
      refine ⟨m2, ?_, q_F_trans hF b2, b3⟩
      rw [y_E_235_7]
      simp (disch := omega) only [z_w_id, if_pos, if_neg, e_g, e_bI, e_bV, e_bL, e_II, e_II', e_IJ, e_JI, e_JJ, e_JJ', reduceIte, not_true_eq_false, not_false_eq_true, true_or, or_true, true_and, and_true, e_nb0, e_gT, n_bit, q, y_E_235_24, y_E_235_44, h1, Int.toNat_natCast]
      exact b1
    · rw [if_neg q, Nat.add_zero] at hx
      obtain ⟨m2, b1, b2, b3⟩ := ih (h + 1) m (by omega) (by rw [hx]; exact h1) (fun j hj => h2 j (by omega))
      refine ⟨m2, ?_, b2, b3⟩
      rw [y_E_235_7]
      simp (disch := omega) only [z_w_id, if_pos, if_neg, e_g, e_bI, e_bV, e_bL, e_II, e_II', e_IJ, e_JI, e_JJ, e_JJ', reduceIte, not_true_eq_false, not_false_eq_true, true_or, or_true, true_and, and_true, e_nb0, e_gT, n_bit, q, y_E_235_44]
      exact b1
theorem t_235 (hS : S < 4096) : ∃ m', y_V sp ph (d + 1) 235 [y_bo 11 0 49, y_bi (S : Int)] m = y_rV m' ∧ q_F (fun a k => (a = 49 ∧ k = 33) ∨ a = 94) m m' ∧ r_H m' S := by
  have hF : q_F (fun a k => (a = 49 ∧ k = 33) ∨ a = 94) m (y_sI m 49 33 0) := q_F_sI (by omega)
  obtain ⟨m2, b1, b2, b3⟩ := l_235 (sp := sp) (ph := ph) (d := d) hS 12 0 (y_sI m 49 33 0) (by omega) (by rw [e_II]; rfl) (fun j hj => absurd hj (Nat.not_lt_zero _))
  refine ⟨m2, ?_, q_F_trans hF b2, b3⟩
  simp (disch := omega) only [y_C_235, y_E_235_0, z_w_id, if_pos, if_neg, e_g, e_bI, e_bV, e_bL, e_II, e_II', e_IJ, e_JI, e_JJ, e_JJ', reduceIte, not_true_eq_false, not_false_eq_true, true_or, or_true, true_and, and_true, e_nb0, e_gT]
  exact b1
end Index
