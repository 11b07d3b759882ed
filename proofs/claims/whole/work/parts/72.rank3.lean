theorem q_bits_bit (w : List Nat) (j : Nat) : (q_bits w).testBit j = decide (j ∈ w) := by
  have go : ∀ (w : List Nat) (b : Nat), (w.foldl (fun b h => b ||| 1 <<< h) b).testBit j = (b.testBit j || decide (j ∈ w)) := by
    intro w
    induction w with
    | nil => intro b; simp
    | cons h t ih =>
      intro b
      rw [List.foldl_cons, ih, Nat.testBit_or, Nat.one_shiftLeft, Nat.testBit_two_pow]
      by_cases q : h = j
      · subst q; simp
      · have : ¬ j = h := fun e => q e.symm
        simp [q, this]
  rw [q_bits, go]
  simp
theorem q_bits_lt {w : List Nat} (hb : ∀ h ∈ w, h < 12) : q_bits w < 4096 := by
  refine Nat.lt_pow_two_of_testBit (n := 12) _ fun j hj => ?_
  rw [q_bits_bit]
  refine decide_eq_false fun q => ?_
  have := hb j q
  omega
section Rank
variable {sp : Nat → Nat} {ph : Bool} {d : Nat} {m : y_m} {a b L R lw s sec : Nat} {first : Bool} {w : List Nat}
theorem s_92 {h1 : Nat} {t : List Nat} (ha : 8 ≤ a) (hb : b ≠ 6) (hb7 : b ≠ 7) (hL : y_mI m b 0 = (L : Int)) (hw : y_mI m b 5 = (lw : Int)) (h6 : L ≤ 6) (hR6 : R ≤ 6) (h2 : lw ≤ 2) (hW : q_W m a w) (e : w = s :: h1 :: t) (hlo : n_low (q_bits w) = s) (hmem : ∀ h ∈ w, h < L + R) (hWs : c_Ws m) : ∃ m', y_V sp ph (d + 6) 92 [y_bo 1 0 6, y_bo 0 0 b, y_bo 8 0 a] m = y_rL (c_rk1 L lw s (w_rm (q_bits w) s) (h1 :: t)) m' ∧ q_F c_P m m' ∧ c_Ws m' := by
  have h12 : ∀ h ∈ w, h < 12 := fun h q => by have := hmem h q; omega
  have hS' := q_bits_lt h12
  have hbit : (q_bits w).testBit s = true := by rw [q_bits_bit, e]; simp
  have hS0 : 0 < q_bits w := by
    rcases Nat.eq_zero_or_pos (q_bits w) with q | q
    · rw [q] at hbit; simp at hbit
    · exact q
  have hS : ∀ j, (q_bits w).testBit j = true → j < L + R := fun j q => by rw [q_bits_bit] at q; exact hmem j (of_decide_eq_true q)
  obtain ⟨m1, a1, a2, a3, a4⟩ := s_94y (sp := sp) (ph := ph) (d := d) (R := R) hb hb7 hL hw h6 hR6 h2 hS' hS0 hWs
  rw [hlo] at a1 a4
  have hr := Nat.lt_of_le_of_lt (w_rm_le (q_bits w) s) hS'
  have hR : ∀ j, (w_rm (q_bits w) s).testBit j = true → j < L + R := w_rm_in hS
  have hW1 := q_W_F hW a2 (by unfold c_P; omega) (by unfold c_P; omega)
  have hn : w ≠ [] := by rw [e]; simp
  have hlen : 2 ≤ w.length := by rw [e]; simp
  have hlen' := hW.2.1
  have d0 : w.drop 0 = s :: h1 :: t := e
  have q0 := q_at_drop d0
  have q1 := q_at_drop q0.2.2
  have hh1 : h1 < 12 := h12 h1 (by rw [e]; simp)
  have hs : s < 12 := h12 s (by rw [e]; simp)
  obtain ⟨m2, b1, b2, b3⟩ := l_92a (sp := sp) (ph := ph) (d := d) (k := 1) hb ha (by omega) q1.2.1 hh1 hr hR h1 0 0 m1 (by omega) hW1 a4
  have hW2 := q_W_F hW1 b2 (by omega) (by omega)
  have hF3 : q_F (fun a k => a = 6 ∧ (k = 3 ∨ k = 4)) m2 (y_sI (y_sI m2 6 3 h1) 6 4 (n_b (r_x L s h1))) := q_F_trans (q_F_sI (by omega)) (q_F_sI (by omega))
  have hc3 : c_Cx (y_sI (y_sI m2 6 3 h1) 6 4 (n_b (r_x L s h1))) b L R lw s h1 (r_x L s h1) := by
    obtain ⟨g1, g2, g3, g4, g5, g6, g7, g10⟩ := b3
    refine ⟨?_, ?_, g3, g4, g5, g6, ?_, ?_, ?_, g10, hh1⟩
    · simp (disch := omega) only [z_w_id, if_pos, if_neg, e_g, e_bI, e_bV, e_bL, e_II, e_II', e_IJ, e_JI, e_JJ, e_JJ', reduceIte, not_true_eq_false, not_false_eq_true, true_or, or_true, true_and, and_true, e_nb0, e_gT]; exact g1
    · simp (disch := omega) only [z_w_id, if_pos, if_neg, e_g, e_bI, e_bV, e_bL, e_II, e_II', e_IJ, e_JI, e_JJ, e_JJ', reduceIte, not_true_eq_false, not_false_eq_true, true_or, or_true, true_and, and_true, e_nb0, e_gT]; exact g2
    · simp (disch := omega) only [z_w_id, if_pos, if_neg, e_g, e_bI, e_bV, e_bL, e_II, e_II', e_IJ, e_JI, e_JJ, e_JJ', reduceIte, not_true_eq_false, not_false_eq_true, true_or, or_true, true_and, and_true, e_nb0, e_gT]; exact g7
    · simp (disch := omega) only [z_w_id, if_pos, if_neg, e_g, e_bI, e_bV, e_bL, e_II, e_II', e_IJ, e_JI, e_JJ, e_JJ', reduceIte, not_true_eq_false, not_false_eq_true, true_or, or_true, true_and, and_true, e_nb0, e_gT]
    · simp (disch := omega) only [z_w_id, if_pos, if_neg, e_g, e_bI, e_bV, e_bL, e_II, e_II', e_IJ, e_JI, e_JJ, e_JJ', reduceIte, not_true_eq_false, not_false_eq_true, true_or, or_true, true_and, and_true, e_nb0, e_gT]
  have hW3 := q_W_F hW2 hF3 (by omega) (by omega)
  have l2 := l_92 (sp := sp) (ph := ph) (d := d) hW3 h12 hc3 t 2 (w_rm (w_rm (q_bits w) s) h1) h1 (r_x L s h1) (0 + q_S (c_f1 L lw s (w_rm (q_bits w) s)) 0 h1) (by omega) q0.2.2 (Nat.lt_of_le_of_lt (w_rm_le _ _) hr) (w_rm_in hR)
  refine ⟨_, ?_, q_F_trans a2 (q_F_mono (q_F_trans b2 hF3) (fun a k h => by unfold c_P; omega)), ?_⟩
  · have b1' : y_R sp ph (d + 5) 92 41 [some (y_bo 1 0 6), some (y_bo 0 0 b), some (y_bo 8 0 a), some (y_bi ((w_rm (q_bits w) s : Nat) : Int)), some (y_bi (-1)), some (y_bl 0), none, some (y_bi 1), some (y_bi (s : Int)), some (y_bi 0)] [] m1 = _ := b1
    have l2' : y_R sp ph (d + 5) 92 19 [some (y_bo 1 0 6), some (y_bo 0 0 b), some (y_bo 8 0 a), some (y_bi ((w_rm (w_rm (q_bits w) s) h1 : Nat) : Int)), some (y_bi (n_b (r_x L s h1))), some (y_bl (0 + q_S (c_f1 L lw s (w_rm (q_bits w) s)) 0 h1)), none, some (y_bi (1 + 1)), none, none] [] _ = _ := l2
    have q01 : q_at w 0 = s := q0.2.1
    have q11 : q_at w 1 = h1 := q1.2.1
    simp (disch := omega) only [y_C_92, y_E_92_0, z_w_id, if_pos, if_neg, e_g, e_bI, e_bV, e_bL, e_II, e_II', e_IJ, e_JI, e_JJ, e_JJ', reduceIte, not_true_eq_false, not_false_eq_true, true_or, or_true, true_and, and_true, e_nb0, e_gT, s_67 hW h12, a1]
    rw [y_E_92_19]
    simp (disch := omega) only [z_w_id, if_pos, if_neg, e_g, e_bI, e_bV, e_bL, e_II, e_II', e_IJ, e_JI, e_JJ, e_JJ', reduceIte, not_true_eq_false, not_false_eq_true, true_or, or_true, true_and, and_true, e_nb0, e_gT, hW1.1, s_65 hW1 hn, show (1 : Int) - 1 = 0 from rfl, q01, b1']
    rw [y_E_92_75]
    have z : ((1 : Nat) : Int) = 1 := rfl
    simp (disch := omega) only [z_w_id, if_pos, if_neg, e_g, e_bI, e_bV, e_bL, e_II, e_II', e_IJ, e_JI, e_JJ, e_JJ', reduceIte, not_true_eq_false, not_false_eq_true, true_or, or_true, true_and, and_true, e_nb0, e_gT, z, s_65 hW2 hn, s_65 hW3 hn, q11, s_95b hb b3.1 b3.2.2.1 b3.2.2.2.2.2.2.1 b3.2.2.2.2.2.2.2 hh1, s_45 hc3.1 hc3.2.2.1, n_rm hr hh1, l2']
    rw [c_rk1, Int.zero_add]
  · exact Or.inr ⟨lw, h2, by rw [q_F_I hF3 6 1 (by omega), q_F_I b2 6 1 (by omega)]; exact a3, hc3.2.2.2.2.2.1⟩
end Rank
