section Finds
variable {sp : Nat → Nat} {ph : Bool} {d : Nat} {m : y_m} {L R lw s S fi been idx : Nat} {left : Int}
theorem t_244 {t : List Nat} (hS : S < 4096) (h3 : 3 ≤ n_pop S) (g1 : y_mI m 52 0 = (L : Int)) (g2 : y_mI m 52 4 = (lw : Int)) (g3 : L ≤ 6) (g4 : lw ≤ 2) (h0 : 0 ≤ left) (hl : left < 9223372036854775808) (ht : c_un1 L lw (n_low S) (w_rm S (n_low S)) left = some t) : ∃ m', y_V sp ph (d + 7) 244 [y_bo 11 0 49, y_bi (S : Int), y_bl left] m = y_rI 1 m' ∧ q_F (fun a k => r_P a k ∨ a = 97) m m' ∧ y_mI m' 49 33 = n_pop S ∧ y_mI m' 97 0 = (n_low S : Int) ∧ ∀ j, j + 1 < n_pop S → y_mI m' 97 (1 + j) = ((t.getD j 0 : Nat) : Int) := by
  obtain ⟨m1, a1, a2, a3⟩ := t_235c (sp := sp) (ph := ph) (d := d + 5) (m := m) (S := S) hS (by omega) g1 g2 g3 g4
  have hp := n_pop_le hS
  have hr0 := r_rest_0 hS (show 0 < n_pop S by omega)
  have hs0 := r_hs_0 S
  rw [← hs0] at ht ⊢
  rw [hs0, ← hr0, ← hs0] at ht
  have px := c_pk_ix1 (been := 0) (G := c_f1 L lw (r_hs S 0) (r_rest S 0)) hS (by omega) c_f1_0 (fun h => (c_f1_b (r_rest_lt S 0) h).1) h0
  have pb := c_pk_b (f := fun j => c_f1 L lw (r_hs S 0) (r_rest S 0) (r_hs S j)) (fun j => (c_f1_b (r_rest_lt S 0) _).1) (n_pop S - 1) 1 left h0
  obtain ⟨m2, b1, b2, b3, b4⟩ := l_244a (sp := sp) (ph := ph) (d := d) (n_pop S - 1) 1 left m1 (by omega) (by omega) h0 hl a3
  have b1' : y_R sp ph (d + 6) 244 19 [some (y_bo 11 0 49), none, none, none, some (y_bl left), none, some (y_bi 1), none, none, none, none, none, none, none, none, none] [] m1 = _ := b1
  unfold c_un1 at ht
  generalize c_pk (fun j => c_f1 L lw (r_hs S 0) (r_rest S 0) (r_hs S j)) (n_pop S - 1) 1 left = pl at *
  obtain ⟨p, l⟩ := pl
  dsimp only at *
  by_cases hlt : p < n_pop S
  · rw [if_pos hlt] at px
    rw [px.1, px.2, if_pos (r_hs_B hlt).1] at ht
    obtain ⟨t', h1', h2'⟩ := Option.map_eq_some_iff.mp ht
    have eo := r_rest_or (been := 0) hS pb.2.2.1 hlt
    have eb : 0 ||| 1 <<< (p - 1) = 1 <<< (p - 1) := Nat.zero_or _
    rw [eb] at eo
    have hr := (r_rest_hs (been := 0) hS pb.2.2.1 hlt).mpr (Nat.zero_testBit _)
    have hpp := n_pop_rm hS (w_low hS (by
      rcases Nat.eq_zero_or_pos S with q | q
      · rw [q, show n_pop 0 = 0 from by decide] at h3; omega
      · exact q)).2.2.1
    rw [← hr0] at hpp
    rw [← eo, show n_pop (r_rest S 0) - 1 = n_pop S - 2 by omega] at h1'
    have hb2 : 1 <<< (p - 1) < 2 ^ (n_pop S - 1) := by rw [Nat.one_shiftLeft]; exact Nat.pow_lt_pow_right (by decide) (by omega)
    have hF : q_F (fun a _ => a = 97) m2 (y_sI (y_sI m2 97 0 (r_hs S 0)) 97 1 (r_hs S p)) := q_F_trans (q_F_sI rfl) (q_F_sI rfl)
    have hb3 := b3
    obtain ⟨k1, k2, k3, k4, ⟨k5, k6⟩, k7, k8⟩ := hb3
    have hc2 : r_Cx (y_sI (y_sI m2 97 0 (r_hs S 0)) 97 1 (r_hs S p)) L lw S := ⟨by rw [q_F_I hF 52 0 (by omega)]; exact k1, by rw [q_F_I hF 52 4 (by omega)]; exact k2, k3, k4, ⟨by rw [q_F_I hF 49 33 (by omega)]; exact k5, fun j hj => by rw [q_F_I hF 94 j (by omega)]; exact k6 j hj⟩, k7, k8⟩
    obtain ⟨m4, f1, f2, f3, f4⟩ := l_244b (sp := sp) (ph := ph) (d := d + 3) (n_pop S - 2) 2 (1 <<< (p - 1)) p (r_x L (r_hs S 0) (r_hs S p)) l (y_sI (y_sI m2 97 0 (r_hs S 0)) 97 1 (r_hs S p)) t' (by omega) hc2 (b4 hlt) hb2 hlt pb.1 (by omega) h1'
    have f1' : y_R sp ph (d + 6) 244 140 [some (y_bo 11 0 49), none, none, none, some (y_bl l), none, none, some (y_bi ((1 <<< (p - 1) : Nat) : Int)), some (y_bi (p : Int)), some (y_bi (n_b (r_x L (r_hs S 0) (r_hs S p)))), some (y_bi (n_b (r_x L (r_hs S 0) (r_hs S p)))), some (y_bi 2), none, none, none, none] [] _ = _ := f1
    have e0 := k6 0 (by omega)
    have ep := k6 p hlt
    have h012 := (r_hs_B (S := S) (show 0 < n_pop S by omega)).1
    have hp12 := (r_hs_B hlt).1
    have e1 : (p : Int) - 1 = ((p - 1 : Nat) : Int) := by omega
    have esh : z_ishl 1 ((p - 1 : Nat) : Int) = ((1 <<< (p - 1) : Nat) : Int) := by
      have hb3 : 1 <<< (p - 1) < 2 ^ 11 := by rw [Nat.one_shiftLeft]; exact Nat.pow_lt_pow_right (by decide) (by omega)
      rw [show (1 : Int) = ((1 : Nat) : Int) from rfl, n_ishl (by omega) (by omega)]
    refine ⟨m4, ?_, q_F_trans (q_F_mono a2 (fun a k h => Or.inl h)) (q_F_trans (q_F_mono b2 (fun a k h => Or.inl (by unfold r_P; omega))) (q_F_trans (q_F_mono hF (fun a k h => Or.inr h)) (q_F_mono f2 (fun a k h => Or.inr h)))), ?_, ?_, fun j hj => ?_⟩
    · simp (disch := omega) only [y_C_244, y_E_244_0, z_w_id, if_pos, if_neg, e_g, e_bI, e_bV, e_bL, e_II, e_II', e_IJ, e_JI, e_JJ, e_JJ', reduceIte, not_true_eq_false, not_false_eq_true, true_or, or_true, true_and, and_true, e_nb0, e_gT, a1, n_lc_ge, b1']
      rw [y_E_244_66]
      simp (disch := omega) only [z_w_id, if_pos, if_neg, e_g, e_bI, e_bV, e_bL, e_II, e_II', e_IJ, e_JI, e_JJ, e_JJ', reduceIte, not_true_eq_false, not_false_eq_true, true_or, or_true, true_and, and_true, e_nb0, e_gT, k5, y_E_244_77, Int.toNat_natCast, e0, ep, t_211 k1 g3, e1, esh, f1']
    · rw [q_F_I f2 49 33 (by omega)]; exact hc2.2.2.2.2.1.1
    · rw [f3 0 (by omega), e_II' (by omega), e_II]
    · rw [← h2']
      by_cases q : j = 0
      · subst q
        rw [f3 (1 + 0) (by omega), e_II]; rfl
      · obtain ⟨j', hj'⟩ : ∃ j', j = j' + 1 := ⟨j - 1, by omega⟩
        subst hj'
        rw [show 1 + (j' + 1) = 2 + j' by omega, f4 j' (by omega)]
        rfl
  · rw [if_neg hlt] at px
    rw [if_neg (by omega)] at ht
    cases ht
end Finds
