section Unrank
variable {sp : Nat → Nat} {ph : Bool} {d : Nat} {m : y_m} {a b L R lw s sec : Nat} {first : Bool} {w : List Nat}
theorem s_63k {k h : Nat} (hW : q_W m a w) (hk : w.length = k) (h12 : k < 12) : y_V sp ph (d + 2) 63 [y_bo 8 0 a, y_bi (h : Int)] m = y_rV (y_sI (y_sI m (a + 1) k h) a 1 ((k : Int) + 1)) := by
  have e := hW.1
  rw [hk] at e
  rw [s_63 (by omega) (by omega), e, Int.toNat_natCast]
theorem l_93 (hb : b ≠ 6) (ha : 8 ≤ a) (hab : b ≠ a) (hab' : b ≠ a + 1) : ∀ (n k rest last : Nat) (i : Bool) (left : Int) (m : y_m) (w : List Nat), n_pop rest = n → w.length = k → 2 ≤ k → k + n ≤ 12 → q_at w ((k : Int) - 1) = last → last < 12 → rest < 4096 → (∀ j, rest.testBit j = true → j < L + R) → 0 ≤ left → left < 9223372036854775808 → q_W m a w → c_Cx m b L R lw s sec first → ∃ m', y_R sp ph (d + 5) 93 39 [some (y_bo 1 0 6), some (y_bo 0 0 b), none, none, none, some (y_bo 8 0 a), some (y_bi (rest : Int)), some (y_bi (n_b i)), some (y_bl left), none, some (y_bi (k : Int)), none, none, none, none] [] m = y_rI (if (c_un2 L lw s sec first n last i rest left).isSome then 1 else 0) m' ∧ q_F (fun x j => (x = a ∧ j = 1) ∨ x = a + 1) m m' ∧ ∀ t, c_un2 L lw s sec first n last i rest left = some t → q_W m' a (w ++ t) := by
  intro n
  induction n with
  | zero =>
    intro k rest last i left m w hn hk h2 hkn hq hl hr hR h0 h1 hW hc
    have hz := n_pop_0 hr hn
    subst hz
    refine ⟨m, ?_, q_F_refl, fun t ht => ?_⟩
    · rw [y_E_93_39]
      by_cases q : 12 ≤ k
      · simp (disch := omega) only [z_w_id, if_pos, if_neg, e_g, e_bI, e_bV, e_bL, e_II, e_II', e_IJ, e_JI, e_JJ, e_JJ', reduceIte, not_true_eq_false, not_false_eq_true, true_or, or_true, true_and, and_true, e_nb0, e_gT, y_E_93_175, c_un2, Option.isSome]
      · simp (disch := omega) only [z_w_id, if_pos, if_neg, e_g, e_bI, e_bV, e_bL, e_II, e_II', e_IJ, e_JI, e_JJ, e_JJ', reduceIte, not_true_eq_false, not_false_eq_true, true_or, or_true, true_and, and_true, e_nb0, e_gT, y_E_93_175, c_un2, Option.isSome]
    · rw [c_un2] at ht
      cases ht
      rw [List.append_nil]; exact hW
  | succ n ih =>
    intro k rest last i left m w hn hk h2 hkn hq hl hr hR h0 h1 hW hc
    have hr0 : rest ≠ 0 := fun q => by rw [q, show n_pop 0 = 0 from by decide] at hn; omega
    have hwn : w ≠ [] := fun q => by rw [q] at hk; simp at hk; omega
    have f0 := s_96a (sp := sp) (ph := ph) (d := d + 1) (i := i) hc (show 0 ≤ 12 by omega) hl hr hR
    have f0' : y_V sp ph (d + 5) 96 [y_bo 1 0 6, y_bo 0 0 b, y_bi (last : Int), y_bi (n_b i), y_bi 0, y_bi (rest : Int)] m = _ := f0
    have lb := l_93b (sp := sp) (ph := ph) (d := d) (a := a) (k := k) (i := i) hl hr hR hc 12 0 left rfl h0 h1
    have lb' : y_R sp ph (d + 5) 93 80 [some (y_bo 1 0 6), some (y_bo 0 0 b), none, none, none, some (y_bo 8 0 a), some (y_bi (rest : Int)), some (y_bi (n_b i)), some (y_bl left), none, some (y_bi (k : Int)), some (y_bi (last : Int)), some (y_bi 0), some (y_bl (c_f2 L lw s sec first rest last i 0)), none] [] m = _ := lb
    have pb := c_pk_b (f := c_f2 L lw s sec first rest last i) (fun j => (c_f2_b hr j).1) 12 0 left h0
    rw [c_un2]
    generalize he : c_pk (c_f2 L lw s sec first rest last i) 12 0 left = p at *
    obtain ⟨h, l⟩ := p
    dsimp only at *
    by_cases c : h < 12
    · have hbit : rest.testBit h = true := by
        have := pb.2.2.2.2 (by omega)
        unfold c_f2 at this
        by_cases q : rest.testBit h = true
        · exact q
        · rw [if_neg (fun e => q e.1)] at this; omega
      have hp := n_pop_rm hr hbit
      have hF : q_F (fun x j => (x = a ∧ j = 1) ∨ x = a + 1) m (y_sI (y_sI m (a + 1) k h) a 1 ((k : Int) + 1)) := q_F_trans (q_F_sI (by omega)) (q_F_sI (by omega))
      obtain ⟨m2, b1, b2, b3⟩ := ih (k + 1) (w_rm rest h) h (r_x L last h) l _ (w ++ [h]) (by omega) (by simp; omega) (by omega) (by omega) (by rw [show ((k + 1 : Nat) : Int) - 1 = (k : Int) by omega]; exact q_at_last hk) c (Nat.lt_of_le_of_lt (w_rm_le _ _) hr) (w_rm_in hR) pb.1 (by omega) (q_W_add hW hk (by omega)) (c_Cx_F hc hF (by omega) (by omega) (by omega))
      refine ⟨m2, ?_, q_F_trans hF b2, fun t ht => ?_⟩
      · rw [if_pos c, y_E_93_39]
        simp (disch := omega) only [z_w_id, if_pos, if_neg, e_g, e_bI, e_bV, e_bL, e_II, e_II', e_IJ, e_JI, e_JJ, e_JJ', reduceIte, not_true_eq_false, not_false_eq_true, true_or, or_true, true_and, and_true, e_nb0, e_gT, hW.1, s_65 hW hwn, hq, f0', lb', y_E_93_123, y_E_93_132, s_95a, s_45 hc.1 hc.2.2.1, s_63k hW hk (show k < 12 by omega), n_rm hr c, Option.isSome_map]
        exact b1
      · rw [if_pos c] at ht
        obtain ⟨t', h1', h2'⟩ := Option.map_eq_some_iff.mp ht
        have := b3 t' h1'
        rw [List.append_assoc] at this
        rw [← h2']; exact this
    · refine ⟨m, ?_, q_F_refl, fun t ht => ?_⟩
      · rw [if_neg c, y_E_93_39]
        simp (disch := omega) only [z_w_id, if_pos, if_neg, e_g, e_bI, e_bV, e_bL, e_II, e_II', e_IJ, e_JI, e_JJ, e_JJ', reduceIte, not_true_eq_false, not_false_eq_true, true_or, or_true, true_and, and_true, e_nb0, e_gT, hW.1, s_65 hW hwn, hq, f0', lb', y_E_93_123, Option.isSome]
        rfl
      · rw [if_neg c] at ht; cases ht
end Unrank
