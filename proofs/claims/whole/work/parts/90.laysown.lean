section Own
variable {sp : Nat → Nat} {ph : Bool} {d : Nat} {m : y_m} {a : Nat} {w : List Nat}
theorem q_at_get {w : List Nat} {m : y_m} {a : Nat} (hA : ∀ i, i < w.length → y_mI m a i = ((w.getD i 0 : Nat) : Int)) (hn : w ≠ []) (y : Int) : y_mI m a (y % (w.length : Int)).toNat = (q_at w y : Int) := by
  have hl : 0 < w.length := List.length_pos_iff.mpr hn
  have h3 : 0 ≤ y % (w.length : Int) := Int.emod_nonneg _ (by omega)
  have h4 : y % (w.length : Int) < w.length := Int.emod_lt_of_pos _ (by omega)
  rw [hA _ (by omega)]; rfl
theorem l_247a (hn : w ≠ []) (hlen : w.length ≤ 12) (hb : ∀ h ∈ w, h < 12) (hA : ∀ i, i < w.length → y_mI m a i = ((w.getD i 0 : Nat) : Int)) : ∀ (n i x : Nat), i + n = w.length → x < w.length → y_R sp ph d 247 5 [some (y_bo 11 0 49), some (y_bo 100 12 a), some (y_bi (w.length : Int)), some (y_bi (x : Int)), some (y_bi (i : Int)), none] [] m = y_R sp ph d 247 34 [some (y_bo 11 0 49), some (y_bo 100 12 a), some (y_bi (w.length : Int)), some (y_bi ((q_mi w n i x : Nat) : Int)), none, none] [] m := by
  intro n
  induction n with
  | zero =>
    intro i x h hx
    rw [y_E_247_5]
    simp (disch := omega) only [z_w_id, if_pos, if_neg, e_g, e_bI, e_bV, e_bL, e_II, e_II', e_IJ, e_JI, e_JJ, e_JJ', reduceIte, not_true_eq_false, not_false_eq_true, true_or, or_true, true_and, and_true, e_nb0, e_gT, q_mi]
  | succ n ih =>
    intro i x h hx
    have hi : i < w.length := by omega
    have e1 : y_mI m a i = (q_at w (i : Int) : Int) := by rw [q_at_nat hi]; exact hA i hi
    have e2 : y_mI m a x = (q_at w (x : Int) : Int) := by rw [q_at_nat hx]; exact hA x hx
    have g1 := hb _ (q_at_mem (i := (i : Int)) hn)
    have g2 := hb _ (q_at_mem (i := (x : Int)) hn)
    rw [y_E_247_5, q_mi]
    by_cases q : q_at w (x : Int) ≤ q_at w (i : Int)
    · rw [if_pos q]
      simp (disch := omega) only [z_w_id, if_pos, if_neg, e_g, e_bI, e_bV, e_bL, e_II, e_II', e_IJ, e_JI, e_JJ, e_JJ', reduceIte, not_true_eq_false, not_false_eq_true, true_or, or_true, true_and, and_true, e_nb0, e_gT, Int.toNat_natCast, e1, e2, y_E_247_26, y_E_247_27]
      exact ih (i + 1) x (by omega) hx
    · rw [if_neg q]
      simp (disch := omega) only [z_w_id, if_pos, if_neg, e_g, e_bI, e_bV, e_bL, e_II, e_II', e_IJ, e_JI, e_JJ, e_JJ', reduceIte, not_true_eq_false, not_false_eq_true, true_or, or_true, true_and, and_true, e_nb0, e_gT, Int.toNat_natCast, e1, e2, y_E_247_27]
      exact ih (i + 1) i (by omega) (by omega)
theorem l_247b (ha : a ≠ 98) (hn : w ≠ []) (hlen : w.length ≤ 12) : ∀ (n j : Nat) (m : y_m), j + n = w.length → (∀ i, i < w.length → y_mI m a i = ((w.getD i 0 : Nat) : Int)) → (∀ i, i < j → y_mI m 98 i = (q_oj w i : Int)) → ∃ m', y_R sp ph d 247 63 [some (y_bo 11 0 49), some (y_bo 100 12 a), some (y_bi (w.length : Int)), some (y_bi (q_sx w : Int)), some (y_bi (if q_sd w = 1 then 1 else 0)), some (y_bi (j : Int))] [] m = y_rV m' ∧ q_F (fun x _ => x = 98) m m' ∧ ∀ i, i < w.length → y_mI m' 98 i = (q_oj w i : Int) := by
  have hx := q_sx_lt hn
  intro n
  induction n with
  | zero =>
    intro j m h hA hO
    refine ⟨m, ?_, q_F_refl, fun i hi => hO i (by omega)⟩
    rw [y_E_247_63]
    simp (disch := omega) only [z_w_id, if_pos, if_neg, e_g, e_bI, e_bV, e_bL, e_II, e_II', e_IJ, e_JI, e_JJ, e_JJ', reduceIte, not_true_eq_false, not_false_eq_true, true_or, or_true, true_and, and_true, e_nb0, e_gT, y_E_247_102]
  | succ n ih =>
    intro j m h hA hO
    have hF : q_F (fun x _ => x = 98) m (y_sI m 98 j (q_oj w j)) := q_F_sI rfl
    obtain ⟨m2, b1, b2, b3⟩ := ih (j + 1) (y_sI m 98 j (q_oj w j)) (by omega) (fun i hi => by rw [e_II' (by omega)]; exact hA i hi) (fun i hi => by
      by_cases q : i = j
      · subst q; rw [e_II]
      · rw [e_II' (by omega)]; exact hO i (by omega))
    refine ⟨m2, ?_, q_F_trans hF b2, b3⟩
    rw [← b1, y_E_247_63]
    rcases q_sd_or w with D | D
    · have eq : y_mI m a (((q_sx w : Int) + (j : Int)) % (w.length : Int)).toNat = (q_oj w j : Int) := by
        rw [q_at_get hA hn]; unfold q_oj; rw [D, Int.one_mul]
      have z0 : 0 ≤ ((q_sx w : Int) + (j : Int)) % (w.length : Int) := Int.emod_nonneg _ (by omega)
      have z1 : ((q_sx w : Int) + (j : Int)) % (w.length : Int) < w.length := Int.emod_lt_of_pos _ (by omega)
      rw [D, show (if (1 : Int) = 1 then (1 : Int) else 0) = 1 from rfl]
      simp (disch := omega) only [z_w_id, if_pos, if_neg, e_g, e_bI, e_bV, e_bL, e_II, e_II', e_IJ, e_JI, e_JJ, e_JJ', reduceIte, not_true_eq_false, not_false_eq_true, true_or, or_true, true_and, and_true, e_nb0, e_gT, Int.toNat_natCast, y_E_247_91, n_irem, eq]
      rfl
    · have eq : y_mI m a (((q_sx w : Int) + ((w.length : Int) - (j : Int))) % (w.length : Int)).toNat = (q_oj w j : Int) := by
        rw [q_at_get hA hn]; unfold q_oj q_at
        rw [D, show (q_sx w : Int) + ((w.length : Int) - (j : Int)) = (q_sx w : Int) + -1 * (j : Int) + (w.length : Int) by omega, Int.add_emod_right]
      have z0 : 0 ≤ ((q_sx w : Int) + ((w.length : Int) - (j : Int))) % (w.length : Int) := Int.emod_nonneg _ (by omega)
      have z1 : ((q_sx w : Int) + ((w.length : Int) - (j : Int))) % (w.length : Int) < w.length := Int.emod_lt_of_pos _ (by omega)
      rw [D, show (if (-1 : Int) = 1 then (1 : Int) else 0) = 0 from rfl]
      simp (disch := omega) only [z_w_id, if_pos, if_neg, e_g, e_bI, e_bV, e_bL, e_II, e_II', e_IJ, e_JI, e_JJ, e_JJ', reduceIte, not_true_eq_false, not_false_eq_true, true_or, or_true, true_and, and_true, e_nb0, e_gT, Int.toNat_natCast, y_E_247_87, y_E_247_91, n_irem, eq]
      rfl
theorem t_247 (ha : a ≠ 98) (hn : w ≠ []) (hlen : w.length ≤ 12) (hb : ∀ h ∈ w, h < 12) (hA : ∀ i, i < w.length → y_mI m a i = ((w.getD i 0 : Nat) : Int)) : ∃ m', y_V sp ph (d + 1) 247 [y_bo 11 0 49, y_bo 100 12 a, y_bi (w.length : Int)] m = y_rV m' ∧ q_F (fun x _ => x = 98) m m' ∧ ∀ i, i < w.length → y_mI m' 98 i = (q_oj w i : Int) := by
  have hl : 0 < w.length := List.length_pos_iff.mpr hn
  have hx := q_sx_lt hn
  have la := l_247a (sp := sp) (ph := ph) (d := d) hn hlen hb hA (w.length - 1) 1 0 (by omega) hl
  have la' : y_R sp ph d 247 5 [some (y_bo 11 0 49), some (y_bo 100 12 a), some (y_bi (w.length : Int)), some (y_bi 0), some (y_bi 1), none] [] m = y_R sp ph d 247 34 [some (y_bo 11 0 49), some (y_bo 100 12 a), some (y_bi (w.length : Int)), some (y_bi (q_sx w : Int)), none, none] [] m := la
  obtain ⟨m2, b1, b2, b3⟩ := l_247b (sp := sp) (ph := ph) (d := d) ha hn hlen w.length 0 m (by omega) hA (fun i hi => absurd hi (Nat.not_lt_zero _))
  refine ⟨m2, ?_, b2, b3⟩
  have b1' : y_R sp ph d 247 63 [some (y_bo 11 0 49), some (y_bo 100 12 a), some (y_bi (w.length : Int)), some (y_bi (q_sx w : Int)), some (y_bi (if q_sd w = 1 then 1 else 0)), some (y_bi 0)] [] m = _ := b1
  have g1 := hb _ (q_at_mem (i := (q_sx w : Int) + 1) hn)
  have g2 := hb _ (q_at_mem (i := (q_sx w : Int) - 1) hn)
  have e1 := q_at_get hA hn ((q_sx w : Int) + 1)
  have e2 : y_mI m a (((q_sx w : Int) + (w.length : Int) - 1) % (w.length : Int)).toNat = (q_at w ((q_sx w : Int) - 1) : Int) := by
    rw [q_at_get hA hn]
    unfold q_at
    rw [show (q_sx w : Int) + (w.length : Int) - 1 = (q_sx w : Int) - 1 + (w.length : Int) by omega, Int.add_emod_right]
  have z0 : 0 ≤ ((q_sx w : Int) + 1) % (w.length : Int) := Int.emod_nonneg _ (by omega)
  have z1 : ((q_sx w : Int) + 1) % (w.length : Int) < w.length := Int.emod_lt_of_pos _ (by omega)
  have z2 : 0 ≤ ((q_sx w : Int) + (w.length : Int) - 1) % (w.length : Int) := Int.emod_nonneg _ (by omega)
  have z3 : ((q_sx w : Int) + (w.length : Int) - 1) % (w.length : Int) < w.length := Int.emod_lt_of_pos _ (by omega)
  rw [y_C_247, y_E_247_0, la', y_E_247_34]
  by_cases q : q_at w ((q_sx w : Int) - 1) ≤ q_at w ((q_sx w : Int) + 1)
  · have D : q_sd w = -1 := by unfold q_sd; rw [if_pos q]
    rw [D, if_neg (by decide)] at b1'
    simp (disch := omega) only [z_w_id, if_pos, if_neg, e_g, e_bI, e_bV, e_bL, e_II, e_II', e_IJ, e_JI, e_JJ, e_JJ', reduceIte, not_true_eq_false, not_false_eq_true, true_or, or_true, true_and, and_true, e_nb0, e_gT, n_irem, e1, e2, y_E_247_57, y_E_247_58]
    exact b1'
  · have D : q_sd w = 1 := by unfold q_sd; rw [if_neg q]
    rw [D, if_pos rfl] at b1'
    simp (disch := omega) only [z_w_id, if_pos, if_neg, e_g, e_bI, e_bV, e_bL, e_II, e_II', e_IJ, e_JI, e_JJ, e_JJ', reduceIte, not_true_eq_false, not_false_eq_true, true_or, or_true, true_and, and_true, e_nb0, e_gT, n_irem, e1, e2, y_E_247_58]
    exact b1'
end Own
