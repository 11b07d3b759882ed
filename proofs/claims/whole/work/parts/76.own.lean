/-! ===== a way told as its own round: from its least hole, toward the lesser neighbour ===== -/
def q_mi (w : List Nat) : Nat → Nat → Nat → Nat
  | 0, _, x => x
  | n + 1, i, x => q_mi w n (i + 1) (if q_at w (x : Int) ≤ q_at w (i : Int) then x else i)
theorem q_mi_lt {w : List Nat} : ∀ (n i x : Nat), x < w.length → i + n ≤ w.length → q_mi w n i x < w.length := by
  intro n
  induction n with
  | zero => intro i x h1 h2; exact h1
  | succ n ih =>
    intro i x h1 h2
    rw [q_mi]
    refine ih _ _ ?_ (by omega)
    split <;> omega
def q_sx (w : List Nat) : Nat := q_mi w (w.length - 1) 1 0
def q_sd (w : List Nat) : Int := if q_at w ((q_sx w : Int) - 1) ≤ q_at w ((q_sx w : Int) + 1) then -1 else 1
theorem q_sd_or (w : List Nat) : q_sd w = 1 ∨ q_sd w = -1 := by unfold q_sd; split <;> simp
def q_oj (w : List Nat) (j : Nat) : Nat := q_at w ((q_sx w : Int) + q_sd w * j)
def q_own (w : List Nat) : List Nat := (List.range w.length).map (q_oj w)
theorem q_own_len (w : List Nat) : (q_own w).length = w.length := by simp [q_own]
theorem q_own_get {w : List Nat} {j : Nat} (h : j < w.length) : (q_own w).getD j 0 = q_oj w j := by
  rw [List.getD_eq_getElem?_getD, List.getElem?_eq_getElem (by rw [q_own_len]; exact h)]
  simp [q_own]
section Own
variable {sp : Nat → Nat} {ph : Bool} {d : Nat} {m : y_m} {a c : Nat} {w : List Nat}
theorem l_70a (hW : q_W m c w) (hn : w ≠ []) (hb : ∀ h ∈ w, h < 12) : ∀ (n i x : Nat), i + n = w.length → x < w.length → y_R sp ph (d + 2) 70 8 [some (y_bo 8 0 a), some (y_bo 8 0 c), some (y_bi (x : Int)), some (y_bi (i : Int)), none] [] m = y_R sp ph (d + 2) 70 37 [some (y_bo 8 0 a), some (y_bo 8 0 c), some (y_bi ((q_mi w n i x : Nat) : Int)), none, none] [] m := by
  have hlen := hW.2.1
  intro n
  induction n with
  | zero =>
    intro i x h hx
    rw [y_E_70_8]
    simp (disch := omega) only [z_w_id, if_pos, if_neg, e_g, e_bI, e_bV, e_bL, e_II, e_II', e_IJ, e_JI, e_JJ, e_JJ', reduceIte, not_true_eq_false, not_false_eq_true, true_or, or_true, true_and, and_true, e_nb0, e_gT, hW.1, q_mi]
  | succ n ih =>
    intro i x h hx
    have g1 := hb _ (q_at_mem (i := (i : Int)) hn)
    have g2 := hb _ (q_at_mem (i := (x : Int)) hn)
    rw [y_E_70_8, q_mi]
    by_cases q : q_at w (x : Int) ≤ q_at w (i : Int)
    · rw [if_pos q]
      simp (disch := omega) only [z_w_id, if_pos, if_neg, e_g, e_bI, e_bV, e_bL, e_II, e_II', e_IJ, e_JI, e_JJ, e_JJ', reduceIte, not_true_eq_false, not_false_eq_true, true_or, or_true, true_and, and_true, e_nb0, e_gT, hW.1, s_65 hW hn, y_E_70_31]
      exact ih (i + 1) x (by omega) hx
    · rw [if_neg q]
      simp (disch := omega) only [z_w_id, if_pos, if_neg, e_g, e_bI, e_bV, e_bL, e_II, e_II', e_IJ, e_JI, e_JJ, e_JJ', reduceIte, not_true_eq_false, not_false_eq_true, true_or, or_true, true_and, and_true, e_nb0, e_gT, hW.1, s_65 hW hn, y_E_70_31]
      exact ih (i + 1) i (by omega) (by omega)
theorem l_70b {x : Nat} {D : Int} (hac : a ≠ c) (hac' : a + 1 ≠ c) (hca : c + 1 ≠ a) (hn : w ≠ []) (hx : x < 12) (hD : D = 1 ∨ D = -1) : ∀ (n j : Nat) (m : y_m), j + n = w.length → q_W m c w → y_mI m a 1 = j → q_W m a ((List.range j).map (fun j : Nat => q_at w ((x : Int) + D * (j : Int)))) → ∃ m', y_R sp ph (d + 3) 70 63 [some (y_bo 8 0 a), some (y_bo 8 0 c), some (y_bi (x : Int)), some (y_bi D), some (y_bi (j : Int))] [] m = y_rV m' ∧ q_F (fun y k => (y = a ∧ k = 1) ∨ y = a + 1) m m' ∧ q_W m' a ((List.range w.length).map (fun j : Nat => q_at w ((x : Int) + D * (j : Int)))) := by
  intro n
  induction n with
  | zero =>
    intro j m h hW ha hA
    have hlen := hW.2.1
    refine ⟨m, ?_, q_F_refl, ?_⟩
    · rw [y_E_70_63]
      simp (disch := omega) only [z_w_id, if_pos, if_neg, e_g, e_bI, e_bV, e_bL, e_II, e_II', e_IJ, e_JI, e_JJ, e_JJ', reduceIte, not_true_eq_false, not_false_eq_true, true_or, or_true, true_and, and_true, e_nb0, e_gT, hW.1, y_E_70_92]
    · rw [show w.length = j by omega]; exact hA
  | succ n ih =>
    intro j m h hW ha hA
    have hlen := hW.2.1
    have hr : -32 ≤ (x : Int) + D * (j : Int) ∧ (x : Int) + D * (j : Int) < 32 := by
      rcases hD with rfl | rfl <;> omega
    have hF : q_F (fun y k => (y = a ∧ k = 1) ∨ y = a + 1) m (y_sI (y_sI m (a + 1) j (q_at w ((x : Int) + D * (j : Int)))) a 1 ((j : Int) + 1)) := q_F_trans (q_F_sI (by omega)) (q_F_sI (by omega))
    have hadd := q_W_add (h := q_at w ((x : Int) + D * (j : Int))) hA (k := j) (by simp) (by omega)
    obtain ⟨m2, b1, b2, b3⟩ := ih (j + 1) _ (by omega) (q_W_F hW hF (by omega) (by omega)) (by rw [e_II]; omega) (by rw [List.range_succ, List.map_append]; exact hadd)
    refine ⟨m2, ?_, q_F_trans hF b2, b3⟩
    rw [y_E_70_63]
    simp (disch := omega) only [z_w_id, if_pos, if_neg, e_g, e_bI, e_bV, e_bL, e_II, e_II', e_IJ, e_JI, e_JJ, e_JJ', reduceIte, not_true_eq_false, not_false_eq_true, true_or, or_true, true_and, and_true, e_nb0, e_gT, hW.1, s_65 hW hn hr.1 hr.2, s_63k hA (k := j) (by simp) (show j < 12 by omega)]
    exact b1
theorem s_70 (hac : a ≠ c) (hac' : a + 1 ≠ c) (hca : c + 1 ≠ a) (hW : q_W m c w) (hn : w ≠ []) (hb : ∀ h ∈ w, h < 12) : ∃ m', y_V sp ph (d + 4) 70 [y_bo 8 0 a, y_bo 8 0 c] m = y_rV m' ∧ q_F (fun y k => (y = a ∧ k = 1) ∨ y = a + 1) m m' ∧ q_W m' a (q_own w) := by
  have hlen := hW.2.1
  have hl : 0 < w.length := List.length_pos_iff.mpr hn
  have hF : q_F (fun y k => (y = a ∧ k = 1) ∨ y = a + 1) m (y_sI m a 1 0) := q_F_sI (by omega)
  have hW1 := q_W_F hW hF (by omega) (by omega)
  have hx := q_mi_lt (w := w) (w.length - 1) 1 0 hl (by omega)
  have la := l_70a (sp := sp) (ph := ph) (d := d + 1) (a := a) hW1 hn hb (w.length - 1) 1 0 (by omega) hl
  have la' : y_R sp ph (d + 3) 70 8 [some (y_bo 8 0 a), some (y_bo 8 0 c), some (y_bi 0), some (y_bi 1), none] [] (y_sI m a 1 0) = y_R sp ph (d + 3) 70 37 [some (y_bo 8 0 a), some (y_bo 8 0 c), some (y_bi (q_sx w : Int)), none, none] [] (y_sI m a 1 0) := la
  have hx' : q_sx w < w.length := hx
  have g1 := hb _ (q_at_mem (i := (q_sx w : Int) + 1) hn)
  have g2 := hb _ (q_at_mem (i := (q_sx w : Int) - 1) hn)
  obtain ⟨m2, b1, b2, b3⟩ := l_70b (sp := sp) (ph := ph) (d := d) (D := q_sd w) (x := q_sx w) hac hac' hca hn (by omega) (q_sd_or w) w.length 0 (y_sI m a 1 0) (by omega) hW1 (by rw [e_II]; rfl) (show q_W _ a [] from ⟨by rw [e_II]; rfl, by simp, fun i hi => absurd hi (by simp)⟩)
  refine ⟨m2, ?_, q_F_trans hF b2, b3⟩
  have b1' : y_R sp ph (d + 3) 70 63 [some (y_bo 8 0 a), some (y_bo 8 0 c), some (y_bi (q_sx w : Int)), some (y_bi (q_sd w)), some (y_bi 0)] [] (y_sI m a 1 0) = _ := b1
  simp (disch := omega) only [y_C_70, y_E_70_0, z_w_id, if_pos, if_neg, e_g, e_bI, e_bV, e_bL, e_II, e_II', e_IJ, e_JI, e_JJ, e_JJ', reduceIte, not_true_eq_false, not_false_eq_true, true_or, or_true, true_and, and_true, e_nb0, e_gT, s_62]
  rw [la', y_E_70_37]
  unfold q_sd at b1'
  by_cases q : q_at w ((q_sx w : Int) - 1) ≤ q_at w ((q_sx w : Int) + 1)
  · rw [if_pos q] at b1'
    simp (disch := omega) only [z_w_id, if_pos, if_neg, e_g, e_bI, e_bV, e_bL, e_II, e_II', e_IJ, e_JI, e_JJ, e_JJ', reduceIte, not_true_eq_false, not_false_eq_true, true_or, or_true, true_and, and_true, e_nb0, e_gT, s_65 hW1 hn, y_E_70_58, y_E_70_59]
    exact b1'
  · rw [if_neg q] at b1'
    simp (disch := omega) only [z_w_id, if_pos, if_neg, e_g, e_bI, e_bV, e_bL, e_II, e_II', e_IJ, e_JI, e_JJ, e_JJ', reduceIte, not_true_eq_false, not_false_eq_true, true_or, or_true, true_and, and_true, e_nb0, e_gT, s_65 hW1 hn, y_E_70_59]
    exact b1'
end Own
