section Unrank
variable {sp : Nat → Nat} {ph : Bool} {d : Nat} {m : y_m} {a b L R lw s sec : Nat} {first : Bool} {w : List Nat}
def c_Pa (a : Nat) (x k : Nat) : Prop := c_P x k ∨ (x = a ∧ k = 1) ∨ x = a + 1
theorem s_93 {S : Nat} {left : Int} (ha : 8 ≤ a) (hb : b ≠ 6) (hb7 : b ≠ 7) (hab : b ≠ a) (hab' : b ≠ a + 1) (hL : y_mI m b 0 = (L : Int)) (hw : y_mI m b 5 = (lw : Int)) (h6 : L ≤ 6) (hR6 : R ≤ 6) (h2 : lw ≤ 2) (hS : ∀ j, S.testBit j = true → j < L + R) (hS' : S < 4096) (hS2 : 2 ≤ n_pop S) (hWs : c_Ws m) (hl0 : -9223372036854775808 ≤ left) (hl1 : left < 9223372036854775808) : ∃ m', y_V sp ph (d + 6) 93 [y_bo 1 0 6, y_bo 0 0 b, y_bi (S : Int), y_bl left, y_bo 8 0 a] m = y_rI (if 0 ≤ left ∧ (c_un1 L lw (n_low S) (w_rm S (n_low S)) left).isSome = true then 1 else 0) m' ∧ q_F (c_Pa a) m m' ∧ c_Ws m' ∧ ∀ t, 0 ≤ left → c_un1 L lw (n_low S) (w_rm S (n_low S)) left = some t → q_W m' a (n_low S :: t) := by
  have hS0 : 0 < S := by
    rcases Nat.eq_zero_or_pos S with q | q
    · rw [q, show n_pop 0 = 0 from by decide] at hS2; omega
    · exact q
  by_cases hneg : 0 ≤ left
  case neg =>
    refine ⟨m, ?_, q_F_refl, hWs, fun t q => absurd q hneg⟩
    rw [if_neg (fun q => hneg q.1)]
    simp (disch := omega) only [y_C_93, y_E_93_0, z_w_id, if_pos, if_neg, e_g, e_bI, e_bV, e_bL, e_II, e_II', e_IJ, e_JI, e_JJ, e_JJ', reduceIte, not_true_eq_false, not_false_eq_true, true_or, or_true, true_and, and_true, e_nb0, e_gT, n_lc_ge]
  case pos =>
  obtain ⟨m1, a1, a2, a3, a4⟩ := s_94y (sp := sp) (ph := ph) (d := d) (R := R) hb hb7 hL hw h6 hR6 h2 hS' hS0 hWs
  have lo := w_low hS' hS0
  generalize n_low S = s at *
  have hnr := n_pop_rm hS' lo.2.2.1
  generalize hrest : w_rm S s = rest at *
  have hr : rest < 4096 := by rw [← hrest]; exact Nat.lt_of_le_of_lt (w_rm_le _ _) hS'
  have hR : ∀ j, rest.testBit j = true → j < L + R := by rw [← hrest]; exact w_rm_in hS
  have hr0 : rest ≠ 0 := fun q => by rw [q, show n_pop 0 = 0 from by decide] at hnr; omega
  have hF1 : q_F (fun x j => (x = a ∧ j = 1) ∨ x = a + 1) m1 (y_sI (y_sI (y_sI m1 a 1 0) (a + 1) 0 s) a 1 1) := q_F_trans (q_F_sI (by omega)) (q_F_trans (q_F_sI (by omega)) (q_F_sI (by omega)))
  have hW1 : q_W (y_sI (y_sI (y_sI m1 a 1 0) (a + 1) 0 s) a 1 1) a [s] := by
    refine ⟨by rw [e_II]; rfl, by simp, fun i hi => ?_⟩
    simp at hi
    subst hi
    rw [e_II' (by omega), e_II]; rfl
  have hc1 := c_Cy_F a4 hF1 (by omega) (by omega) (by omega)
  have s63 : y_V sp ph (d + 5) 63 [y_bo 8 0 a, y_bi (s : Int)] (y_sI m1 a 1 0) = y_rV (y_sI (y_sI (y_sI m1 a 1 0) (a + 1) 0 s) a 1 1) := by
    rw [s_63 (d := d + 3) (by rw [e_II]; omega) (by rw [e_II]; omega), e_II]; rfl
  generalize hm2 : y_sI (y_sI (y_sI m1 a 1 0) (a + 1) 0 s) a 1 1 = m2 at *
  obtain ⟨m3, f1, f2, f3⟩ := s_96b (sp := sp) (ph := ph) (d := d + 1) (h := 0) hb hc1 (by omega) hr hR
  have f1' : y_V sp ph (d + 5) 96 [y_bo 1 0 6, y_bo 0 0 b, y_bi (s : Int), y_bi (-1), y_bi 0, y_bi (rest : Int)] m2 = _ := f1
  obtain ⟨m4, g1, g2, g3⟩ := l_93a (sp := sp) (ph := ph) (d := d) (a := a) hb ha hr hR 12 0 left m3 rfl hneg hl1 f3
  have g1' : y_R sp ph (d + 5) 93 80 [some (y_bo 1 0 6), some (y_bo 0 0 b), none, none, none, some (y_bo 8 0 a), some (y_bi (rest : Int)), some (y_bi (-1)), some (y_bl left), none, some (y_bi 1), some (y_bi (s : Int)), some (y_bi 0), some (y_bl (c_f1 L lw s rest 0)), none] [] m3 = _ := g1
  have hF24 := q_F_trans f2 g2
  have hW4 := q_W_F hW1 hF24 (by omega) (by omega)
  have hF04 : q_F (c_Pa a) m m4 := q_F_trans (q_F_mono a2 (fun x k h => by unfold c_Pa; exact Or.inl h)) (q_F_trans (q_F_mono hF1 (fun x k h => by unfold c_Pa; exact Or.inr h)) (q_F_mono hF24 (fun x k h => by unfold c_Pa c_P; omega)))
  have q0 : q_at [s] 0 = s := by simp [q_at]
  have pb := c_pk_b (f := c_f1 L lw s rest) (fun j => (c_f1_b hr j).1) 12 0 left hneg
  have begin_ : ∀ r, y_R sp ph (d + 5) 93 123 [some (y_bo 1 0 6), some (y_bo 0 0 b), none, none, none, some (y_bo 8 0 a), some (y_bi (rest : Int)), some (y_bi (-1)), some (y_bl (c_pk (c_f1 L lw s rest) 12 0 left).2), none, some (y_bi 1), some (y_bi (s : Int)), some (y_bi ((c_pk (c_f1 L lw s rest) 12 0 left).1 : Int)), none, none] [] m4 = r → y_V sp ph (d + 6) 93 [y_bo 1 0 6, y_bo 0 0 b, y_bi (S : Int), y_bl left, y_bo 8 0 a] m = r := by
    intro r hr'
    have z : (1 : Int) - 1 = 0 := rfl
    simp (disch := omega) only [y_C_93, y_E_93_0, y_E_93_8, z_w_id, if_pos, if_neg, e_g, e_bI, e_bV, e_bL, e_II, e_II', e_IJ, e_JI, e_JJ, e_JJ', reduceIte, not_true_eq_false, not_false_eq_true, true_or, or_true, true_and, and_true, e_nb0, e_gT, n_lc_ge, a1, s_62, a4.2.2.2.2.2.2.1, s63]
    rw [y_E_93_39]
    simp (disch := omega) only [z_w_id, if_pos, if_neg, e_g, e_bI, e_bV, e_bL, e_II, e_II', e_IJ, e_JI, e_JJ, e_JJ', reduceIte, not_true_eq_false, not_false_eq_true, true_or, or_true, true_and, and_true, e_nb0, e_gT, z, s_65 hW1 (List.cons_ne_nil _ _), q0, f1', g1']
    exact hr'
  have hI1 : y_mI m4 6 1 = lw := by rw [q_F_I hF24 6 1 (by omega), q_F_I hF1 6 1 (by omega)]; exact a3
  unfold c_un1
  generalize he : c_pk (c_f1 L lw s rest) 12 0 left = p at *
  obtain ⟨h, l⟩ := p
  dsimp only at *
  by_cases c : h < 12
  · have hbit : rest.testBit h = true := by
      have := pb.2.2.2.2 (by omega)
      unfold c_f1 at this
      by_cases q : rest.testBit h = true
      · exact q
      · rw [if_neg q] at this; omega
    have hp := n_pop_rm hr hbit
    have hF5 : q_F (fun x k => x = 6 ∧ (k = 3 ∨ k = 4)) m4 (y_sI (y_sI m4 6 3 h) 6 4 (n_b (r_x L s h))) := q_F_trans (q_F_sI (by omega)) (q_F_sI (by omega))
    have hc5 : c_Cx (y_sI (y_sI m4 6 3 h) 6 4 (n_b (r_x L s h))) b L R lw s h (r_x L s h) := by
      obtain ⟨x1, x2, x3, x4, x5, x6, x7, x10⟩ := g3
      refine ⟨?_, ?_, x3, x4, x5, x6, ?_, ?_, ?_, x10, c⟩
      · simp (disch := omega) only [z_w_id, if_pos, if_neg, e_g, e_bI, e_bV, e_bL, e_II, e_II', e_IJ, e_JI, e_JJ, e_JJ', reduceIte, not_true_eq_false, not_false_eq_true, true_or, or_true, true_and, and_true, e_nb0, e_gT]; exact x1
      · simp (disch := omega) only [z_w_id, if_pos, if_neg, e_g, e_bI, e_bV, e_bL, e_II, e_II', e_IJ, e_JI, e_JJ, e_JJ', reduceIte, not_true_eq_false, not_false_eq_true, true_or, or_true, true_and, and_true, e_nb0, e_gT]; exact x2
      · simp (disch := omega) only [z_w_id, if_pos, if_neg, e_g, e_bI, e_bV, e_bL, e_II, e_II', e_IJ, e_JI, e_JJ, e_JJ', reduceIte, not_true_eq_false, not_false_eq_true, true_or, or_true, true_and, and_true, e_nb0, e_gT]; exact x7
      · simp (disch := omega) only [z_w_id, if_pos, if_neg, e_g, e_bI, e_bV, e_bL, e_II, e_II', e_IJ, e_JI, e_JJ, e_JJ', reduceIte, not_true_eq_false, not_false_eq_true, true_or, or_true, true_and, and_true, e_nb0, e_gT]
      · simp (disch := omega) only [z_w_id, if_pos, if_neg, e_g, e_bI, e_bV, e_bL, e_II, e_II', e_IJ, e_JI, e_JJ, e_JJ', reduceIte, not_true_eq_false, not_false_eq_true, true_or, or_true, true_and, and_true, e_nb0, e_gT]
    have hW5 := q_W_F hW4 hF5 (by omega) (by omega)
    have s95 := s_95b (sp := sp) (ph := ph) (d := d + 2) hb g3.1 g3.2.2.1 g3.2.2.2.2.2.2.1 g3.2.2.2.2.2.2.2 c
    generalize hm5 : y_sI (y_sI m4 6 3 h) 6 4 (n_b (r_x L s h)) = m5 at *
    have hF6 : q_F (fun x j => (x = a ∧ j = 1) ∨ x = a + 1) m5 (y_sI (y_sI m5 (a + 1) 1 h) a 1 (((1 : Nat) : Int) + 1)) := q_F_trans (q_F_sI (by omega)) (q_F_sI (by omega))
    obtain ⟨m7, b1, b2, b3⟩ := l_93 (sp := sp) (ph := ph) (d := d) hb ha hab hab' (n_pop rest - 1) 2 (w_rm rest h) h (r_x L s h) l _ ([s] ++ [h]) (by omega) rfl (by omega) (by have := n_pop_le hS'; omega) (q_at_last (w := [s]) (k := 1) rfl) c (Nat.lt_of_le_of_lt (w_rm_le _ _) hr) (w_rm_in hR) pb.1 (by omega) (q_W_add (k := 1) hW5 rfl (by omega)) (c_Cx_F hc5 hF6 (by omega) (by omega) (by omega))
    have hF57 := q_F_trans hF6 b2
    refine ⟨m7, ?_, q_F_trans hF04 (q_F_trans (q_F_mono hF5 (fun x k h => by unfold c_Pa c_P; omega)) (q_F_mono hF57 (fun x k h => Or.inr h))), Or.inr ⟨lw, h2, ?_, fun i hi => ?_⟩, fun t _ ht => ?_⟩
    · refine begin_ _ ?_
      have z1 : ((1 : Nat) : Int) = 1 := rfl
      have s63b := s_63k (sp := sp) (ph := ph) (d := d + 3) (h := h) hW5 (k := 1) rfl (by omega)
      rw [z1] at s63b
      rw [if_pos c]
      simp (disch := omega) only [z_w_id, if_pos, if_neg, e_g, e_bI, e_bV, e_bL, e_II, e_II', e_IJ, e_JI, e_JJ, e_JJ', reduceIte, not_true_eq_false, not_false_eq_true, true_or, or_true, true_and, and_true, e_nb0, e_gT, y_E_93_123, y_E_93_132, s95, s_45 hc5.1 hc5.2.2.1, s63b, n_rm hr c, Option.isSome_map, hneg]
      exact b1
    · rw [q_F_I hF57 6 1 (by omega), q_F_I hF5 6 1 (by omega)]; exact hI1
    · rw [q_F_J hF57 7 i (by omega)]; exact hc5.2.2.2.2.2.1 i hi
    · rw [if_pos c] at ht
      obtain ⟨t', h1', h2'⟩ := Option.map_eq_some_iff.mp ht
      have := b3 t' h1'
      rw [← h2']; exact this
  · refine ⟨m4, ?_, hF04, Or.inr ⟨lw, h2, hI1, g3.2.2.2.2.2.1⟩, fun t _ ht => ?_⟩
    · refine begin_ _ ?_
      rw [if_neg c]
      simp (disch := omega) only [z_w_id, if_pos, if_neg, e_g, e_bI, e_bV, e_bL, e_II, e_II', e_IJ, e_JI, e_JJ, e_JJ', reduceIte, not_true_eq_false, not_false_eq_true, true_or, or_true, true_and, and_true, e_nb0, e_gT, y_E_93_123, Option.isSome]
      simp
    · rw [if_neg c] at ht; cases ht
end Unrank
