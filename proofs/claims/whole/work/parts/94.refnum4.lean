section Num
variable {sp : Nat → Nat} {ph : Bool} {d : Nat} {m : y_m} {L R lw s S fi been idx x1 : Nat} {x2 : Int} {i f : Bool} {w : List Nat}
theorem q_at_inj {w : List Nat} (hnd : w.Nodup) (hn : w ≠ []) {y z : Int} (e : q_at w y = q_at w z) : y % (w.length : Int) = z % (w.length : Int) := by
  have hl : 0 < w.length := List.length_pos_iff.mpr hn
  have h3 : 0 ≤ y % (w.length : Int) := Int.emod_nonneg _ (by omega)
  have h4 : y % (w.length : Int) < w.length := Int.emod_lt_of_pos _ (by omega)
  have h5 : 0 ≤ z % (w.length : Int) := Int.emod_nonneg _ (by omega)
  have h6 : z % (w.length : Int) < w.length := Int.emod_lt_of_pos _ (by omega)
  unfold q_at at e
  generalize y % (w.length : Int) = a at *
  generalize z % (w.length : Int) = b at *
  have ha : a.toNat < w.length := by omega
  have hb : b.toNat < w.length := by omega
  rw [List.getD_eq_getElem?_getD, List.getD_eq_getElem?_getD, List.getElem?_eq_getElem ha, List.getElem?_eq_getElem hb] at e
  have e2 : w[a.toNat] = w[b.toNat] := e
  have pw := List.pairwise_iff_getElem.mp hnd
  rcases Nat.lt_or_ge a.toNat b.toNat with q | q
  · exact absurd e2 (pw _ _ ha hb q)
  · rcases Nat.lt_or_ge b.toNat a.toNat with r | r
    · exact absurd e2.symm (pw _ _ hb ha r)
    · omega
theorem q_oj_ne {w : List Nat} (hnd : w.Nodup) (hn : w ≠ []) {j : Nat} (h1 : 1 ≤ j) (hj : j < w.length) : q_oj w j ≠ q_at w (q_sx w : Int) := by
  intro e
  have := q_at_inj hnd hn e
  have d := Int.emod_eq_emod_iff_emod_sub_eq_zero.mp this
  have dv := Int.dvd_of_emod_eq_zero d
  rcases q_sd_or w with D | D
  · rw [D, show (q_sx w : Int) + 1 * (j : Int) - (q_sx w : Int) = (j : Int) by omega] at dv
    have := Int.le_of_dvd (by omega) dv
    omega
  · rw [D, show (q_sx w : Int) + -1 * (j : Int) - (q_sx w : Int) = -(j : Int) by omega] at dv
    have := Int.le_of_dvd (by omega) (Int.dvd_neg.mp dv)
    omega
theorem l_249a (hx : x1 < n_pop S) : ∀ (n j : Nat) (acc : Int) (m : y_m), j + n = x1 → 1 ≤ j → r_Cx m L lw S → ∃ m', y_R sp ph (d + 6) 249 71 [some (y_bo 11 0 49), some (y_bi (x1 : Int)), some (y_bi x2), some (y_bi (x1 : Int)), some (y_bl acc), none, some (y_bi (j : Int)), none, none, none, none, none] [] m = y_R sp ph (d + 6) 249 100 [some (y_bo 11 0 49), some (y_bi (x1 : Int)), some (y_bi x2), some (y_bi (x1 : Int)), some (y_bl (acc + q_S (fun j => c_f1 L lw (r_hs S 0) (r_rest S 0) (r_hs S j)) j n)), none, none, none, none, none, none, none] [] m' ∧ q_F (fun a _ => a = 95) m m' ∧ r_Cx m' L lw S := by
  intro n
  induction n with
  | zero =>
    intro j acc m hj h1 hc
    have hp := n_pop_le hc.2.2.2.2.2.1
    refine ⟨m, ?_, q_F_refl, hc⟩
    rw [y_E_249_71]
    simp (disch := omega) only [z_w_id, if_pos, if_neg, e_g, e_bI, e_bV, e_bL, e_II, e_II', e_IJ, e_JI, e_JJ, e_JJ', reduceIte, not_true_eq_false, not_false_eq_true, true_or, or_true, true_and, and_true, e_nb0, e_gT, q_S, Int.add_zero]
  | succ n ih =>
    intro j acc m hj h1 hc
    have hp := n_pop_le hc.2.2.2.2.2.1
    obtain ⟨m1, a1, a2, a3, a4⟩ := t_238 (sp := sp) (ph := ph) (d := d) (fi := j) (by omega) hc
    have t240 := t_240 (sp := sp) (ph := ph) (d := d + 3) a3 h1 (show j < n_pop S by omega) a4
    obtain ⟨m2, b1, b2, b3⟩ := ih (j + 1) (acc + c_f1 L lw (r_hs S 0) (r_rest S 0) (r_hs S j)) m1 (by omega) (by omega) a3
    refine ⟨m2, ?_, q_F_trans a2 b2, b3⟩
    rw [y_E_249_71, q_S, ← Int.add_assoc, ← b1]
    simp (disch := omega) only [z_w_id, if_pos, if_neg, e_g, e_bI, e_bV, e_bL, e_II, e_II', e_IJ, e_JI, e_JJ, e_JJ', reduceIte, not_true_eq_false, not_false_eq_true, true_or, or_true, true_and, and_true, e_nb0, e_gT, a1, t240]
    rfl
def r_P2 (a k : Nat) : Prop := r_P a k ∨ a = 98 ∨ (a = 49 ∧ k = 0)
theorem t_249a (hL : y_mI m 52 0 = (L : Int)) (hlw : y_mI m 52 4 = (lw : Int)) (h6 : L ≤ 6) (h2 : lw ≤ 2) (hw : q_V m w) (hn : 3 ≤ w.length) (hnd : w.Nodup) (hb : ∀ h ∈ w, h < 12) (hj : q_judge L lw w 0 w.length = -1) : ∃ m', y_V sp ph (d + 7) 249 [y_bo 11 0 49] m = y_rL (c_num L lw w) m' ∧ q_F r_P2 m m' ∧ y_mI m' 49 0 = 0 := by
  have hne : w ≠ [] := fun q => by rw [q] at hn; simp at hn
  have hlen := hw.2.1
  have hF0 : q_F r_P2 m (y_sI m 49 0 0) := q_F_sI (by unfold r_P2; omega)
  have hw0 : q_V (y_sI m 49 0 0) w := ⟨by rw [e_II' (by omega)]; exact hw.1, hw.2.1, fun i hi => by rw [e_II' (by omega)]; exact hw.2.2 i hi⟩
  have hL0 : y_mI (y_sI m 49 0 0) 52 0 = (L : Int) := by rw [e_II' (by omega)]; exact hL
  have hlw0 : y_mI (y_sI m 49 0 0) 52 4 = (lw : Int) := by rw [e_II' (by omega)]; exact hlw
  have t230 := t_230a (sp := sp) (ph := ph) (d := d + 4) (m := y_sI m 49 0 0) e_II hw0 hne
  have t229 := t_229 (sp := sp) (ph := ph) (d := d + 2) hw0 hne hb hL0 h6 hlw0 h2
  rw [hj] at t229
  have t246 := t_246 (sp := sp) (ph := ph) (d := d + 5) hw0 hb
  have hz : y_mI (y_sI m 49 0 0) 49 0 = 0 := e_II
  generalize hm0 : y_sI m 49 0 0 = m0 at *
  have hS := q_bits_lt hb
  have hpop := n_pop_bits hnd hb
  have hlow := q_low_own hne hb
  have hmemS : ∀ h, h ∈ w → (q_bits w).testBit h = true := fun h q => by rw [q_bits_bit]; exact decide_eq_true q
  obtain ⟨m1, a1, a2, a3⟩ := t_235c (sp := sp) (ph := ph) (d := d + 5) (S := q_bits w) hS (by omega) hL0 hlw0 h6 h2
  have e13 : y_mI m1 49 13 = (w.length : Int) := by rw [q_F_I a2 49 13 (by unfold r_P; omega)]; exact hw0.1
  obtain ⟨m2, b1, b2, b3⟩ := t_247 (sp := sp) (ph := ph) (d := d + 5) (m := m1) (a := 54) (by omega) hne hlen hb (fun i hi => by rw [q_F_I a2 54 i (by unfold r_P; omega)]; exact hw0.2.2 i hi)
  have c2 : r_Cx m2 L lw (q_bits w) := by
    obtain ⟨g1, g2, g3, g4, ⟨g5, g6⟩, g7, g8⟩ := a3
    refine ⟨?_, ?_, g3, g4, ⟨?_, fun j hj => ?_⟩, g7, g8⟩
    · rw [q_F_I b2 52 0 (by omega)]; exact g1
    · rw [q_F_I b2 52 4 (by omega)]; exact g2
    · rw [q_F_I b2 49 33 (by omega)]; exact g5
    · rw [q_F_I b2 94 j (by omega)]; exact g6 j hj
  obtain ⟨h1, t1, ht⟩ : ∃ h1 t1, q_tl w = h1 :: t1 := by
    cases q : q_tl w with
    | nil =>
      have := congrArg List.length q
      unfold q_tl at this
      rw [List.length_map, List.length_range] at this
      simp at this
      omega
    | cons h1 t1 => exact ⟨h1, t1, rfl⟩
  have eo : q_own w = n_low (q_bits w) :: h1 :: t1 := by rw [q_own_cons hne, ht, hlow]
  have ol := q_own_len w
  have m98 : ∀ i, i < (q_own w).length → y_mI m2 98 i = (((q_own w).getD i 0 : Nat) : Int) := fun i hi => by rw [q_own_get (by omega)]; exact b3 i (by omega)
  have o0 : y_mI m2 98 0 = (n_low (q_bits w) : Int) := by rw [m98 0 (by omega), eo]; rfl
  have o1 : y_mI m2 98 1 = (h1 : Int) := by rw [m98 1 (by omega), eo]; rfl
  have hin : ∀ h, h ∈ h1 :: t1 → (q_bits w).testBit h = true ∧ h ≠ r_hs (q_bits w) 0 := by
    intro h hm
    refine ⟨hmemS h (q_own_mem.mp (by rw [eo]; exact List.mem_cons_of_mem _ hm)), fun q => ?_⟩
    rw [← ht] at hm
    unfold q_tl at hm
    obtain ⟨j, hj1, hj2⟩ := List.mem_map.mp hm
    have hjl := List.mem_range.mp hj1
    refine q_oj_ne hnd hne (j := j + 1) (by omega) (by omega) ?_
    rw [hj2, q, r_hs_0, hlow]
  have hh1 := hin h1 (List.mem_cons_self ..)
  have h112 := n_tb_lt hS hh1.1
  have hix := r_ix_lt hh1.1 h112
  rw [r_ix_12] at hix
  have hp := n_pop_le hS
  have hhs := r_hs_ix hh1.1 h112
  have hix1 : 1 ≤ r_ix (q_bits w) h1 := by
    rcases Nat.eq_zero_or_pos (r_ix (q_bits w) h1) with z | z
    · rw [z] at hhs; exact absurd hhs.symm hh1.2
    · exact z
  have t248 := t_248 (sp := sp) (ph := ph) (d := d + 5) c2.2.2.2.2.1 hS hh1.1
  have hsum := r_sum (been := 0) (G := c_f1 L lw (r_hs (q_bits w) 0) (r_rest (q_bits w) 0)) hS (by omega) c_f1_0 h1 (by omega) hix1
  have hr0 := r_rest_0 hS (show 0 < n_pop (q_bits w) by omega)
  have hs0 := r_hs_0 (q_bits w)
  have eor := r_rest_or (been := 0) hS hix1 hix
  have eb : 0 ||| 1 <<< (r_ix (q_bits w) h1 - 1) = 1 <<< (r_ix (q_bits w) h1 - 1) := Nat.zero_or _
  rw [eb, hhs] at eor
  have hb2 : 1 <<< (r_ix (q_bits w) h1 - 1) < 2 ^ (n_pop (q_bits w) - 1) := by rw [Nat.one_shiftLeft]; exact Nat.pow_lt_pow_right (by decide) (by omega)
  have hb3 : 1 <<< (r_ix (q_bits w) h1 - 1) < 2 ^ 11 := by rw [Nat.one_shiftLeft]; exact Nat.pow_lt_pow_right (by decide) (by omega)
  have esh : z_ishl 1 ((r_ix (q_bits w) h1 - 1 : Nat) : Int) = ((1 <<< (r_ix (q_bits w) h1 - 1) : Nat) : Int) := by
    rw [show (1 : Int) = ((1 : Nat) : Int) from rfl, n_ishl (by omega) (by omega)]
  generalize hSe : q_bits w = S at *
  generalize r_ix S h1 = x1 at *
  have e1 : (x1 : Int) - 1 = ((x1 - 1 : Nat) : Int) := by omega
  obtain ⟨m3, f1, f2, f3⟩ := l_249a (sp := sp) (ph := ph) (d := d) (x2 := ((1 <<< (x1 - 1) : Nat) : Int)) hix (x1 - 1) 1 0 m2 (by omega) (by omega) c2
  rw [Int.zero_add, ← hsum] at f1
  have f1' : y_R sp ph (d + 6) 249 71 [some (y_bo 11 0 49), some (y_bi (x1 : Int)), some (y_bi ((1 <<< (x1 - 1) : Nat) : Int)), some (y_bi (x1 : Int)), some (y_bl 0), none, some (y_bi 1), none, none, none, none, none] [] m2 = _ := f1
  obtain ⟨m4, k1, k2, k3, k4⟩ := t_238 (sp := sp) (ph := ph) (d := d) (fi := x1) hix f3
  have hF24 := q_F_trans f2 k2
  have n98 : ∀ i, i < (q_own w).length → y_mI m4 98 i = (((q_own w).getD i 0 : Nat) : Int) := fun i hi => by rw [q_F_I hF24 98 i (by omega)]; exact m98 i hi
  have n0 : y_mI m4 98 0 = (n_low S : Int) := by rw [q_F_I hF24 98 0 (by omega)]; exact o0
  have n1 : y_mI m4 98 1 = (h1 : Int) := by rw [q_F_I hF24 98 1 (by omega)]; exact o1
  have l := l_249b (sp := sp) (ph := ph) (d := d + 3) (f := r_x L (n_low S) h1) k3 k4 (by omega) n98 t1 2 (1 <<< (x1 - 1)) x1 (r_x L (n_low S) h1) (q_S (c_f1 L lw (r_hs S 0) (r_rest S 0)) 0 h1) (by omega) (by rw [eo]; rfl) (fun h hm => hin h (List.mem_cons_of_mem _ hm)) hb2 hix
  have l' : y_R sp ph (d + 6) 249 130 [some (y_bo 11 0 49), none, some (y_bi ((1 <<< (x1 - 1) : Nat) : Int)), some (y_bi (x1 : Int)), some (y_bl (q_S (c_f1 L lw (r_hs S 0) (r_rest S 0)) 0 h1)), none, some (y_bi (n_b (r_x L (n_low S) h1))), some (y_bi (n_b (r_x L (n_low S) h1))), some (y_bi 2), none, none, none] [] m4 = _ := l
  have hlo12 : n_low S < 12 := by rw [hlow]; exact hb _ (q_at_mem hne)
  refine ⟨m4, ?_, q_F_trans hF0 (q_F_trans (q_F_mono a2 (fun a k h => Or.inl h)) (q_F_trans (q_F_mono b2 (fun a k h => Or.inr (Or.inl h))) (q_F_mono hF24 (fun a k h => by unfold r_P2 r_P; omega)))), ?_⟩
  · simp (disch := omega) only [y_C_249, y_E_249_0, y_E_249_14, y_E_249_26, z_w_id, if_pos, if_neg, e_g, e_bI, e_bV, e_bL, e_II, e_II', e_IJ, e_JI, e_JJ, e_JJ', reduceIte, not_true_eq_false, not_false_eq_true, true_or, or_true, true_and, and_true, e_nb0, e_gT, hm0, t230, t229, t246, a1, e13, b1, o1, t248, e1, esh, f1']
    rw [y_E_249_100]
    simp (disch := omega) only [z_w_id, if_pos, if_neg, e_g, e_bI, e_bV, e_bL, e_II, e_II', e_IJ, e_JI, e_JJ, e_JJ', reduceIte, not_true_eq_false, not_false_eq_true, true_or, or_true, true_and, and_true, e_nb0, e_gT, k1, n0, n1, t_211 k3.1 h6, l']
    unfold c_num
    rw [ht, c_rk1, eor, hhs, hs0, hr0, hSe]
  · rw [q_F_I hF24 49 0 (by omega), q_F_I b2 49 0 (by omega), q_F_I a2 49 0 (by unfold r_P; omega)]; exact hz
end Num
