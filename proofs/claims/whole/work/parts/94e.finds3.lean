section Finds
variable {sp : Nat → Nat} {ph : Bool} {d : Nat} {m : y_m} {L R lw s S fi been idx : Nat} {i f : Bool}
theorem l_244b : ∀ (n x11 been now : Nat) (i : Bool) (left : Int) (m : y_m) (t : List Nat), x11 + n = n_pop S → r_Cx m L lw S → r_ways m L lw S fi 1 → been < 2 ^ (n_pop S - 1) → now < n_pop S → 0 ≤ left → left < 9223372036854775808 → c_un2 L lw (r_hs S 0) (r_hs S fi) f n (r_hs S now) i (r_rest S been) left = some t → ∃ m', y_R sp ph (d + 3) 244 140 [some (y_bo 11 0 49), none, none, none, some (y_bl left), none, none, some (y_bi (been : Int)), some (y_bi (now : Int)), some (y_bi (n_b i)), some (y_bi (n_b f)), some (y_bi (x11 : Int)), none, none, none, none] [] m = y_rI 1 m' ∧ q_F (fun a _ => a = 97) m m' ∧ (∀ j, j < x11 → y_mI m' 97 j = y_mI m 97 j) ∧ ∀ j, j < n → y_mI m' 97 (x11 + j) = ((t.getD j 0 : Nat) : Int) := by
  intro n
  induction n with
  | zero =>
    intro x11 been now i left m t hx hc hw hb hn h0 hl ht
    have hp := n_pop_le hc.2.2.2.2.2.1
    have g5 := hc.2.2.2.2.1.1
    refine ⟨m, ?_, q_F_refl, fun _ _ => rfl, fun j hj => absurd hj (Nat.not_lt_zero _)⟩
    rw [y_E_244_140]
    simp (disch := omega) only [z_w_id, if_pos, if_neg, e_g, e_bI, e_bV, e_bL, e_II, e_II', e_IJ, e_JI, e_JJ, e_JJ', reduceIte, not_true_eq_false, not_false_eq_true, true_or, or_true, true_and, and_true, e_nb0, e_gT, g5, y_E_244_300]
  | succ n ih =>
    intro x11 been now i left m t hx hc hw hb hn h0 hl ht
    have hS := hc.2.2.2.2.2.1
    have hk := hc.2.2.2.2.2.2
    have hp := n_pop_le hS
    have g5 := hc.2.2.2.2.1.1
    have px := c_pk_ix1 (been := been) (G := c_f2 L lw (r_hs S 0) (r_hs S fi) f (r_rest S been) (r_hs S now) i) hS (by omega) c_f2_0 (fun h => (c_f2_b (r_rest_lt S been) h).1) h0
    have pb := c_pk_b (f := fun j => c_f2 L lw (r_hs S 0) (r_hs S fi) f (r_rest S been) (r_hs S now) i (r_hs S j)) (fun j => (c_f2_b (r_rest_lt S been) _).1) (n_pop S - 1) 1 left h0
    rw [c_un2] at ht
    have lc := l_244c (sp := sp) (ph := ph) (d := d) (x11 := x11) (i := i) (f := f) hc hb hn (by omega) hw (n_pop S - 1) 1 left (by omega) (by omega) h0 hl
    by_cases hlt : (c_pk (fun j => c_f2 L lw (r_hs S 0) (r_hs S fi) f (r_rest S been) (r_hs S now) i (r_hs S j)) (n_pop S - 1) 1 left).1 < n_pop S
    · obtain ⟨p, l, e, r⟩ := lc hlt
      rw [e] at px pb hlt
      dsimp only at px pb hlt
      rw [if_pos hlt] at px
      rw [px.1, px.2] at ht
      have hp12 := (r_hs_B hlt).1
      rw [if_pos hp12] at ht
      obtain ⟨t', h1', h2'⟩ := Option.map_eq_some_iff.mp ht
      have eo := r_rest_or (been := been) hS pb.2.2.1 hlt
      rw [← eo] at h1'
      have olt : been ||| 1 <<< (p - 1) < 2 ^ (n_pop S - 1) := Nat.or_lt_two_pow hb (by rw [Nat.one_shiftLeft]; exact Nat.pow_lt_pow_right (by decide) (by omega))
      have hF : q_F (fun a _ => a = 97) m (y_sI m 97 x11 (r_hs S p)) := q_F_sI rfl
      have hc2 : r_Cx (y_sI m 97 x11 (r_hs S p)) L lw S := by
        obtain ⟨g1, g2, g3, g4, ⟨g5, g6⟩, g7, g8⟩ := hc
        exact ⟨by rw [e_II' (by omega)]; exact g1, by rw [e_II' (by omega)]; exact g2, g3, g4, ⟨by rw [e_II' (by omega)]; exact g5, fun j hj => by rw [e_II' (by omega)]; exact g6 j hj⟩, g7, g8⟩
      obtain ⟨m2, b1, b2, b3, b4⟩ := ih (x11 + 1) (been ||| 1 <<< (p - 1)) p (r_x L (r_hs S now) (r_hs S p)) l _ t' (by omega) hc2 hw olt hlt pb.1 (by omega) h1'
      refine ⟨m2, ?_, q_F_trans hF b2, fun j hj => by rw [b3 j (by omega), e_II' (by omega)], fun j hj => ?_⟩
      · have r' : y_R sp ph (d + 3) 244 152 [some (y_bo 11 0 49), none, none, none, some (y_bl left), none, none, some (y_bi (been : Int)), some (y_bi (now : Int)), some (y_bi (n_b i)), some (y_bi (n_b f)), some (y_bi (x11 : Int)), some (y_bi 1), none, none, none] [] m = _ := r
        rw [y_E_244_140]
        simp (disch := omega) only [z_w_id, if_pos, if_neg, e_g, e_bI, e_bV, e_bL, e_II, e_II', e_IJ, e_JI, e_JJ, e_JJ', reduceIte, not_true_eq_false, not_false_eq_true, true_or, or_true, true_and, and_true, e_nb0, e_gT, g5, r', y_E_244_294]
        exact b1
      · rw [← h2']
        by_cases q : j = 0
        · subst q
          rw [Nat.add_zero, b3 x11 (by omega), e_II]; rfl
        · obtain ⟨j', hj'⟩ : ∃ j', j = j' + 1 := ⟨j - 1, by omega⟩
          subst hj'
          rw [show x11 + (j' + 1) = x11 + 1 + j' by omega, b4 j' (by omega)]
          rfl
    · rw [if_neg hlt] at px
      rw [if_neg (by omega)] at ht
      cases ht
end Finds
