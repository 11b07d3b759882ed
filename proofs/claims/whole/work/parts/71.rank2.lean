/-! ===== the number of a round in its row, and the round of a number ===== -/
theorem q_W_F {P : Nat → Nat → Prop} {m m' : y_m} {a : Nat} {w : List Nat} (h : q_W m a w) (hF : q_F P m m') (h1 : ¬ P a 1) (h2 : ∀ k, ¬ P (a + 1) k) : q_W m' a w :=
  ⟨by rw [q_F_I hF a 1 h1]; exact h.1, h.2.1, fun i hi => by rw [q_F_I hF (a + 1) i (h2 i)]; exact h.2.2 i hi⟩
def c_rk2 (L lw s sec : Nat) (first : Bool) : List Nat → Nat → Bool → Nat → Int
  | [], _, _, _ => 0
  | h :: t, last, i, rest => q_S (c_f2 L lw s sec first rest last i) 0 h + c_rk2 L lw s sec first t h (r_x L last h) (w_rm rest h)
def c_rk1 (L lw s rest : Nat) : List Nat → Int
  | [] => 0
  | h :: t => q_S (c_f1 L lw s rest) 0 h + c_rk2 L lw s h (r_x L s h) t h (r_x L s h) (w_rm rest h)
theorem q_at_drop {w : List Nat} {k h : Nat} {t : List Nat} (e : w.drop k = h :: t) : k < w.length ∧ q_at w (k : Int) = h ∧ w.drop (k + 1) = t := by
  have hk : k < w.length := by
    rcases Nat.lt_or_ge k w.length with q | q
    · exact q
    · rw [List.drop_eq_nil_of_le q] at e; cases e
  refine ⟨hk, ?_, ?_⟩
  · rw [q_at_nat hk, ← List.getElem_eq_getD (h := hk)]
    rw [List.drop_eq_getElem_cons hk] at e
    exact (List.cons.inj e).1
  · rw [List.drop_eq_getElem_cons hk] at e
    exact (List.cons.inj e).2
section Rank
variable {sp : Nat → Nat} {ph : Bool} {d : Nat} {m : y_m} {a b L R lw s sec : Nat} {first : Bool} {w : List Nat}
theorem l_92a {rest k h1 : Nat} (hb : b ≠ 6) (ha : 8 ≤ a) (hk : k < w.length) (e1 : q_at w (k : Int) = h1) (h12 : h1 < 12) (hr : rest < 4096) (hR : ∀ j, rest.testBit j = true → j < L + R) : ∀ (n h : Nat) (acc : Int) (m : y_m), h + n = h1 → q_W m a w → c_Cy m b L R lw s → ∃ m', y_R sp ph (d + 5) 92 41 [some (y_bo 1 0 6), some (y_bo 0 0 b), some (y_bo 8 0 a), some (y_bi (rest : Int)), some (y_bi (-1)), some (y_bl acc), none, some (y_bi (k : Int)), some (y_bi (s : Int)), some (y_bi (h : Int))] [] m = y_R sp ph (d + 5) 92 75 [some (y_bo 1 0 6), some (y_bo 0 0 b), some (y_bo 8 0 a), some (y_bi (rest : Int)), some (y_bi (-1)), some (y_bl (acc + q_S (c_f1 L lw s rest) h n)), none, some (y_bi (k : Int)), some (y_bi (s : Int)), none] [] m' ∧ q_F (fun a k => a = 6 ∧ (k = 3 ∨ k = 4)) m m' ∧ c_Cy m' b L R lw s := by
  have hn : w ≠ [] := fun q => by rw [q] at hk; exact absurd hk (Nat.not_lt_zero _)
  intro n
  induction n with
  | zero =>
    intro h acc m hh hW hc
    have : h = h1 := by omega
    subst this
    have := hW.2.1
    refine ⟨m, ?_, q_F_refl, hc⟩
    rw [y_E_92_41]
    simp (disch := omega) only [z_w_id, if_pos, if_neg, e_g, e_bI, e_bV, e_bL, e_II, e_II', e_IJ, e_JI, e_JJ, e_JJ', reduceIte, not_true_eq_false, not_false_eq_true, true_or, or_true, true_and, and_true, e_nb0, e_gT, s_65 hW hn, e1, q_S, Int.add_zero]
  | succ n ih =>
    intro h acc m hh hW hc
    have := hW.2.1
    obtain ⟨m1, a1, a2, a3⟩ := s_96b (sp := sp) (ph := ph) (d := d + 1) (h := h) hb hc (by omega) hr hR
    obtain ⟨m2, b1, b2, b3⟩ := ih (h + 1) (acc + c_f1 L lw s rest h) m1 (by omega) (q_W_F hW a2 (by omega) (by omega)) a3
    refine ⟨m2, ?_, q_F_trans a2 b2, b3⟩
    rw [y_E_92_41]
    simp (disch := omega) only [z_w_id, if_pos, if_neg, e_g, e_bI, e_bV, e_bL, e_II, e_II', e_IJ, e_JI, e_JJ, e_JJ', reduceIte, not_true_eq_false, not_false_eq_true, true_or, or_true, true_and, and_true, e_nb0, e_gT, s_65 hW hn, e1, a1, q_S]
    rw [← Int.add_assoc]
    exact b1
theorem l_92b {rest k h1 last : Nat} {i : Bool} (hk : k < w.length) (e1 : q_at w (k : Int) = h1) (h12 : h1 < 12) (hl : last < 12) (hr : rest < 4096) (hR : ∀ j, rest.testBit j = true → j < L + R) (hW : q_W m a w) (hc : c_Cx m b L R lw s sec first) : ∀ (n h : Nat) (acc : Int), h + n = h1 → y_R sp ph (d + 5) 92 41 [some (y_bo 1 0 6), some (y_bo 0 0 b), some (y_bo 8 0 a), some (y_bi (rest : Int)), some (y_bi (n_b i)), some (y_bl acc), none, some (y_bi (k : Int)), some (y_bi (last : Int)), some (y_bi (h : Int))] [] m = y_R sp ph (d + 5) 92 75 [some (y_bo 1 0 6), some (y_bo 0 0 b), some (y_bo 8 0 a), some (y_bi (rest : Int)), some (y_bi (n_b i)), some (y_bl (acc + q_S (c_f2 L lw s sec first rest last i) h n)), none, some (y_bi (k : Int)), some (y_bi (last : Int)), none] [] m := by
  have hn : w ≠ [] := fun q => by rw [q] at hk; exact absurd hk (Nat.not_lt_zero _)
  have := hW.2.1
  intro n
  induction n with
  | zero =>
    intro h acc hh
    have : h = h1 := by omega
    subst this
    rw [y_E_92_41]
    simp (disch := omega) only [z_w_id, if_pos, if_neg, e_g, e_bI, e_bV, e_bL, e_II, e_II', e_IJ, e_JI, e_JJ, e_JJ', reduceIte, not_true_eq_false, not_false_eq_true, true_or, or_true, true_and, and_true, e_nb0, e_gT, s_65 hW hn, e1, q_S, Int.add_zero]
  | succ n ih =>
    intro h acc hh
    rw [y_E_92_41]
    simp (disch := omega) only [z_w_id, if_pos, if_neg, e_g, e_bI, e_bV, e_bL, e_II, e_II', e_IJ, e_JI, e_JJ, e_JJ', reduceIte, not_true_eq_false, not_false_eq_true, true_or, or_true, true_and, and_true, e_nb0, e_gT, s_65 hW hn, e1, s_96a hc (show h ≤ 12 by omega) hl hr hR, q_S]
    rw [← Int.add_assoc]
    exact ih (h + 1) _ (by omega)
theorem n_rm {rest h : Nat} (hr : rest < 4096) (hh : h < 12) : z_iand (rest : Int) (z_ixor (z_ishl 1 (h : Int)) (-1)) = (w_rm rest h : Int) := by
  have hpw : 2 ^ h ≤ 2 ^ 11 := Nat.pow_le_pow_right (by decide) (by omega)
  rw [n_one (by omega), n_not (by omega) (by omega)]; rfl
theorem l_92 (hW : q_W m a w) (hb : ∀ h ∈ w, h < 12) (hc : c_Cx m b L R lw s sec first) : ∀ (t : List Nat) (k rest last : Nat) (i : Bool) (acc : Int), 1 ≤ k → w.drop (k - 1) = last :: t → rest < 4096 → (∀ j, rest.testBit j = true → j < L + R) → y_R sp ph (d + 5) 92 19 [some (y_bo 1 0 6), some (y_bo 0 0 b), some (y_bo 8 0 a), some (y_bi (rest : Int)), some (y_bi (n_b i)), some (y_bl acc), none, some (y_bi (k : Int)), none, none] [] m = y_rL (acc + c_rk2 L lw s sec first t last i rest) m := by
  have hlen := hW.2.1
  intro t
  induction t with
  | nil =>
    intro k rest last i acc hk e hr hR
    have q := q_at_drop e
    have e2 := q.2.2
    rw [Nat.sub_add_cancel hk] at e2
    have : w.length ≤ k := by
      have := congrArg List.length e2
      rw [List.length_drop] at this
      simp at this
      omega
    rw [y_E_92_19]
    simp (disch := omega) only [z_w_id, if_pos, if_neg, e_g, e_bI, e_bV, e_bL, e_II, e_II', e_IJ, e_JI, e_JJ, e_JJ', reduceIte, not_true_eq_false, not_false_eq_true, true_or, or_true, true_and, and_true, e_nb0, e_gT, hW.1, y_E_92_121, c_rk2, Int.add_zero]
  | cons h t ih =>
    intro k rest last i acc hk e hr hR
    have q := q_at_drop e
    have e2 := q.2.2
    rw [Nat.sub_add_cancel hk] at e2
    have q2 := q_at_drop e2
    have hn : w ≠ [] := fun q => by rw [q] at e2; simp at e2
    have hl : last < 12 := by rw [← q.2.1]; exact hb _ (q_at_mem hn)
    have hh : h < 12 := by rw [← q2.2.1]; exact hb _ (q_at_mem hn)
    have ek : ((k - 1 : Nat) : Int) = (k : Int) - 1 := by omega
    have q1 := q.2.1
    rw [ek] at q1
    have hk' := q2.1
    have lb := l_92b (sp := sp) (ph := ph) (d := d) (i := i) hk' q2.2.1 hh hl hr hR hW hc h 0 acc (by omega)
    have lb' : y_R sp ph (d + 5) 92 41 [some (y_bo 1 0 6), some (y_bo 0 0 b), some (y_bo 8 0 a), some (y_bi (rest : Int)), some (y_bi (n_b i)), some (y_bl acc), none, some (y_bi (k : Int)), some (y_bi (last : Int)), some (y_bi 0)] [] m = _ := lb
    have nx := ih (k + 1) (w_rm rest h) h (r_x L last h) (acc + q_S (c_f2 L lw s sec first rest last i) 0 h) (by omega) (by rw [Nat.add_sub_cancel]; exact e2) (Nat.lt_of_le_of_lt (w_rm_le _ _) hr) (w_rm_in hR)
    rw [y_E_92_19]
    simp (disch := omega) only [z_w_id, if_pos, if_neg, e_g, e_bI, e_bV, e_bL, e_II, e_II', e_IJ, e_JI, e_JJ, e_JJ', reduceIte, not_true_eq_false, not_false_eq_true, true_or, or_true, true_and, and_true, e_nb0, e_gT, hW.1, s_65 hW hn, q1, lb']
    rw [y_E_92_75]
    simp (disch := omega) only [z_w_id, if_pos, if_neg, e_g, e_bI, e_bV, e_bL, e_II, e_II', e_IJ, e_JI, e_JJ, e_JJ', reduceIte, not_true_eq_false, not_false_eq_true, true_or, or_true, true_and, and_true, e_nb0, e_gT, s_65 hW hn, q2.2.1, s_95a, s_45 hc.1 hc.2.2.1, n_rm hr hh]
    rw [c_rk2, ← Int.add_assoc]
    exact nx
end Rank
