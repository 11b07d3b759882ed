section Ways
variable {sp : Nat → Nat} {ph : Bool} {d : Nat} {m : y_m} {L R lw s S fi been idx : Nat} {i f : Bool}
/-- the cells of one mask, for the places below a bound -/
def r_row1 (m : y_m) (L lw S fi been J : Nat) : Prop := ∀ j, 1 ≤ j → j < J → been.testBit (j - 1) = true → ∀ i f, y_mJ m 95 (r_wi been j i f) = r_wv L lw S fi been j i f
theorem l_238b (hc : r_Cx m L lw S) (hb : been < 2 ^ (n_pop S - 1)) (hi : idx < n_pop S) (hf : fi < n_pop S) (hw : r_ways m L lw S fi (been + 1)) (hr : r_row1 m L lw S fi been idx) : ∃ m', y_R sp ph (d + 5) 238 35 [some (y_bo 11 0 49), some (y_bi (fi : Int)), some (y_bi (been : Int)), some (y_bi (idx : Int)), some (y_bi 0)] [] m = y_R sp ph (d + 5) 238 113 [some (y_bo 11 0 49), some (y_bi (fi : Int)), some (y_bi (been : Int)), some (y_bi (idx : Int)), none] [] m' ∧ q_F (fun a _ => a = 95) m m' ∧ r_Cx m' L lw S ∧ r_ways m' L lw S fi (been + 1) ∧ r_row1 m' L lw S fi been (idx + 1) := by
  have hS := hc.2.2.2.2.2.1
  have hp := n_pop_le hS
  have cx : ∀ (m : y_m) (x : Nat) (v : Int), r_Cx m L lw S → r_Cx (y_sJ m 95 x v) L lw S := fun _ _ _ h => h
  have a0 := l_238c (sp := sp) (ph := ph) (d := d) (i := false) (f := false) hc hb hi hf hw
  have w1 := r_ways_sJ (been := been) (j := idx) (i := false) (f := false) (v := r_wv L lw S fi been idx false false) hw hS (by omega) (show idx < 12 by omega)
  have c1 := cx m (r_wi been idx false false) (r_wv L lw S fi been idx false false) hc
  generalize e1 : y_sJ m 95 (r_wi been idx false false) (r_wv L lw S fi been idx false false) = m1 at *
  have a1 := l_238c (sp := sp) (ph := ph) (d := d) (i := false) (f := true) c1 hb hi hf w1
  have w2 := r_ways_sJ (been := been) (j := idx) (i := false) (f := true) (v := r_wv L lw S fi been idx false true) w1 hS (by omega) (show idx < 12 by omega)
  have c2 := cx m1 (r_wi been idx false true) (r_wv L lw S fi been idx false true) c1
  generalize e2 : y_sJ m1 95 (r_wi been idx false true) (r_wv L lw S fi been idx false true) = m2 at *
  have a2 := l_238c (sp := sp) (ph := ph) (d := d) (i := true) (f := false) c2 hb hi hf w2
  have w3 := r_ways_sJ (been := been) (j := idx) (i := true) (f := false) (v := r_wv L lw S fi been idx true false) w2 hS (by omega) (show idx < 12 by omega)
  have c3 := cx m2 (r_wi been idx true false) (r_wv L lw S fi been idx true false) c2
  generalize e3 : y_sJ m2 95 (r_wi been idx true false) (r_wv L lw S fi been idx true false) = m3 at *
  have a3 := l_238c (sp := sp) (ph := ph) (d := d) (i := true) (f := true) c3 hb hi hf w3
  have w4 := r_ways_sJ (been := been) (j := idx) (i := true) (f := true) (v := r_wv L lw S fi been idx true true) w3 hS (by omega) (show idx < 12 by omega)
  have c4 := cx m3 (r_wi been idx true true) (r_wv L lw S fi been idx true true) c3
  refine ⟨y_sJ m3 95 (r_wi been idx true true) (r_wv L lw S fi been idx true true), ?_, ?_, c4, w4, ?_⟩
  · have b0 : y_R sp ph (d + 5) 238 35 [some (y_bo 11 0 49), some (y_bi (fi : Int)), some (y_bi (been : Int)), some (y_bi (idx : Int)), some (y_bi 0)] [] m = _ := a0
    have b1 : y_R sp ph (d + 5) 238 35 [some (y_bo 11 0 49), some (y_bi (fi : Int)), some (y_bi (been : Int)), some (y_bi (idx : Int)), some (y_bi (2 * n_b false + n_b false + 1))] [] m1 = _ := a1
    have b2 : y_R sp ph (d + 5) 238 35 [some (y_bo 11 0 49), some (y_bi (fi : Int)), some (y_bi (been : Int)), some (y_bi (idx : Int)), some (y_bi (2 * n_b false + n_b true + 1))] [] m2 = _ := a2
    have b3 : y_R sp ph (d + 5) 238 35 [some (y_bo 11 0 49), some (y_bi (fi : Int)), some (y_bi (been : Int)), some (y_bi (idx : Int)), some (y_bi (2 * n_b true + n_b false + 1))] [] m3 = _ := a3
    rw [b0, b1, b2, b3, y_E_238_35]
    have n1 : n_b true = 1 := rfl
    simp (disch := omega) only [z_w_id, if_pos, if_neg, e_g, e_bI, e_bV, e_bL, e_II, e_II', e_IJ, e_JI, e_JJ, e_JJ', reduceIte, not_true_eq_false, not_false_eq_true, true_or, or_true, true_and, and_true, e_nb0, e_gT, n1]
  · rw [← e3, ← e2, ← e1]
    exact q_F_trans (q_F_sJ rfl) (q_F_trans (q_F_sJ rfl) (q_F_trans (q_F_sJ rfl) (q_F_sJ rfl)))
  · intro j hj hj2 hbit i f
    have g : ∀ i' f', ¬ (j = idx ∧ i = i' ∧ f = f') → r_wi been j i f ≠ r_wi been idx i' f' := fun i' f' q => r_wi_ne (by omega) (by omega) (fun e => q e.2)
    by_cases q : j = idx
    · subst q
      cases i <;> cases f
      · rw [e_JJ' (fun e => g _ _ (by simp) e.2), ← e3, e_JJ' (fun e => g _ _ (by simp) e.2), ← e2, e_JJ' (fun e => g _ _ (by simp) e.2), ← e1, e_JJ]
      · rw [e_JJ' (fun e => g _ _ (by simp) e.2), ← e3, e_JJ' (fun e => g _ _ (by simp) e.2), ← e2, e_JJ]
      · rw [e_JJ' (fun e => g _ _ (by simp) e.2), ← e3, e_JJ]
      · rw [e_JJ]
    · rw [e_JJ' (fun e => g _ _ (fun z => q z.1) e.2), ← e3, e_JJ' (fun e => g _ _ (fun z => q z.1) e.2), ← e2, e_JJ' (fun e => g _ _ (fun z => q z.1) e.2), ← e1, e_JJ' (fun e => g _ _ (fun z => q z.1) e.2)]
      exact hr j hj (by omega) hbit i f
end Ways
