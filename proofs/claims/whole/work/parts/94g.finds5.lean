theorem c_pk_out {f : Nat → Int} (hf : ∀ j, 0 ≤ f j) : ∀ (n h : Nat) (left : Int), q_S f h n ≤ left → (c_pk f n h left).1 = h + n := by
  intro n
  induction n with
  | zero => intro h left _; rw [c_pk]; rfl
  | succ n ih =>
    intro h left hl
    rw [c_pk]
    rw [q_S] at hl
    have hs : 0 ≤ q_S f (h + 1) n := by
      clear ih hl
      generalize h + 1 = k
      induction n generalizing k with
      | zero => rw [q_S]; omega
      | succ n ih => rw [q_S]; have := ih (k + 1); have := hf k; omega
    rw [if_neg (by omega), ih (h + 1) (left - f h) (by omega)]
    omega
section Finds
variable {sp : Nat → Nat} {ph : Bool} {d : Nat} {m : y_m} {L R A B t lw s S fi been idx : Nat} {left : Int} {w : List Nat}
/-- a number that is none -/
theorem t_244n (hS : S < 4096) (h3 : 3 ≤ n_pop S) (g1 : y_mI m 52 0 = (L : Int)) (g2 : y_mI m 52 4 = (lw : Int)) (g3 : L ≤ 6) (g4 : lw ≤ 2) (hl0 : -9223372036854775808 ≤ left) (hl : left < 9223372036854775808) (ht : left < 0 ∨ c_un1 L lw (n_low S) (w_rm S (n_low S)) left = none) : ∃ m', y_V sp ph (d + 7) 244 [y_bo 11 0 49, y_bi (S : Int), y_bl left] m = y_rI 0 m' ∧ q_F r_P m m' := by
  obtain ⟨m1, a1, a2, a3⟩ := t_235c (sp := sp) (ph := ph) (d := d + 5) (m := m) (S := S) hS (by omega) g1 g2 g3 g4
  have hp := n_pop_le hS
  by_cases h0 : left < 0
  · refine ⟨m1, ?_, a2⟩
    simp (disch := omega) only [y_C_244, y_E_244_0, z_w_id, if_pos, if_neg, e_g, e_bI, e_bV, e_bL, e_II, e_II', e_IJ, e_JI, e_JJ, e_JJ', reduceIte, not_true_eq_false, not_false_eq_true, true_or, or_true, true_and, and_true, e_nb0, e_gT, a1, n_lc_ge]
  · have hnone : c_un1 L lw (n_low S) (w_rm S (n_low S)) left = none := by
      rcases ht with q | q
      · omega
      · exact q
    have hge : c_cnt L lw S ≤ left := by
      rcases Int.lt_or_le left (c_cnt L lw S) with q | q
      · obtain ⟨t, e⟩ := c_un1_some hS (by omega) (by omega) q
        rw [e] at hnone; cases hnone
      · exact q
    rw [c_cnt_ix hS (by omega)] at hge
    have po := c_pk_out (f := fun j => c_f1 L lw (r_hs S 0) (r_rest S 0) (r_hs S j)) (fun j => (c_f1_b (r_rest_lt S 0) _).1) (n_pop S - 1) 1 left hge
    obtain ⟨m2, b1, b2, b3, b4⟩ := l_244a (sp := sp) (ph := ph) (d := d) (n_pop S - 1) 1 left m1 (by omega) (by omega) (by omega) hl a3
    have b1' : y_R sp ph (d + 6) 244 19 [some (y_bo 11 0 49), none, none, none, some (y_bl left), none, some (y_bi 1), none, none, none, none, none, none, none, none, none] [] m1 = _ := b1
    have k5 := b3.2.2.2.2.1.1
    rw [po] at b1'
    refine ⟨m2, ?_, q_F_trans a2 (q_F_mono b2 (fun a k h => by unfold r_P; omega))⟩
    simp (disch := omega) only [y_C_244, y_E_244_0, z_w_id, if_pos, if_neg, e_g, e_bI, e_bV, e_bL, e_II, e_II', e_IJ, e_JI, e_JJ, e_JJ', reduceIte, not_true_eq_false, not_false_eq_true, true_or, or_true, true_and, and_true, e_nb0, e_gT, a1, n_lc_ge, b1']
    rw [y_E_244_66]
    simp (disch := omega) only [z_w_id, if_pos, if_neg, e_g, e_bI, e_bV, e_bL, e_II, e_II', e_IJ, e_JI, e_JJ, e_JJ', reduceIte, not_true_eq_false, not_false_eq_true, true_or, or_true, true_and, and_true, e_nb0, e_gT, k5]
def r_P3 (a k : Nat) : Prop := r_P a k ∨ a = 97 ∨ a = 54 ∨ (a = 49 ∧ (k = 13 ∨ k = 0))
theorem c_un2_len {sec : Nat} {first : Bool} : ∀ (n last : Nat) (i : Bool) (rest : Nat) (left : Int) (u : List Nat), c_un2 L lw s sec first n last i rest left = some u → u.length = n := by
  intro n
  induction n with
  | zero => intro last i rest left u h; rw [c_un2] at h; cases h; rfl
  | succ n ih =>
    intro last i rest left u h
    rw [c_un2] at h
    split at h
    · obtain ⟨t', h1, h2⟩ := Option.map_eq_some_iff.mp h
      rw [← h2, List.length_cons, ih _ _ _ _ _ h1]
    · cases h
theorem c_un1_len {rest : Nat} {u : List Nat} (h : c_un1 L lw s rest left = some u) : u.length = n_pop rest - 1 + 1 := by
  unfold c_un1 at h
  split at h
  · obtain ⟨t', h1, h2⟩ := Option.map_eq_some_iff.mp h
    rw [← h2, List.length_cons, c_un2_len _ _ _ _ _ _ h1]
  · cases h
/-- a round that is found becomes the way -/
theorem t_tk {u : List Nat} {m1 : y_m} (hS : S < 4096) (h3 : 3 ≤ n_pop S) (hu : c_un1 L lw (n_low S) (w_rm S (n_low S)) left = some u) (e0 : y_mI m1 49 33 = n_pop S) (e1 : y_mI m1 97 0 = (n_low S : Int)) (e2 : ∀ j, j + 1 < n_pop S → y_mI m1 97 (1 + j) = ((u.getD j 0 : Nat) : Int)) : ∃ m', y_V sp ph (d + 1) 196 [y_bo 11 0 49, y_bo 100 12 97, y_bi (n_pop S : Int)] m1 = y_rV m' ∧ q_F (fun x k => x = 54 ∨ (x = 49 ∧ k = 13)) m1 m' ∧ q_V m' (n_low S :: u) ∧ (n_pop S : Int) = (u.length : Int) + 1 ∧ y_mI m' 49 33 = n_pop S := by
  have hp := n_pop_le hS
  have hS0 : 0 < S := by
    rcases Nat.eq_zero_or_pos S with q | q
    · rw [q, show n_pop 0 = 0 from by decide] at h3; omega
    · exact q
  have hpr := n_pop_rm hS (w_low hS hS0).2.2.1
  have hlen := c_un1_len hu
  have hlen2 : u.length + 1 = n_pop S := by omega
  obtain ⟨m2, b1, b2, b3⟩ := t_196 (sp := sp) (ph := ph) (d := d) (m := m1) (a := 97) (w := n_low S :: u) (by omega) (by omega) (by rw [List.length_cons]; omega) (fun i hi => by
    rw [List.length_cons] at hi
    by_cases q : i = 0
    · subst q; exact e1
    · obtain ⟨j, hj⟩ : ∃ j, i = j + 1 := ⟨i - 1, by omega⟩
      subst hj
      rw [Nat.add_comm j 1, e2 j (by omega), Nat.add_comm 1 j]; rfl)
  rw [List.length_cons, hlen2] at b1
  exact ⟨m2, b1, b2, b3, by omega, by rw [q_F_I b2 49 33 (by omega)]; exact e0⟩
theorem t_245 {x : Int} (hL : y_mI m 52 0 = (L : Int)) (hR : y_mI m 52 1 = (R : Int)) (ht : y_mI m 52 6 = (t : Int)) (hw : y_mI m 52 4 = (lw : Int)) (h1 : L ≤ 6) (h2 : R ≤ 6) (h : t < 4096) (h3 : lw ≤ 2) (hx : -2147483648 ≤ x) (hx' : x < 2147483648) (hr : c_rd L R t x) (hV : q_V m w) (hl0 : -9223372036854775808 ≤ left) (hl1 : left < 9223372036854775808) : (∀ u, 0 ≤ left → c_un1 L lw (n_low x.toNat) (w_rm x.toNat (n_low x.toNat)) left = some u → ∃ m', y_V sp ph (d + 8) 245 [y_bo 11 0 49, y_bi x, y_bl left] m = y_rI ((u.length : Int) + 1) m' ∧ q_F r_P3 m m' ∧ y_mI m' 49 0 = 0 ∧ q_V m' (n_low x.toNat :: u)) ∧ ((left < 0 ∨ c_un1 L lw (n_low x.toNat) (w_rm x.toNat (n_low x.toNat)) left = none) → ∃ m', y_V sp ph (d + 8) 245 [y_bo 11 0 49, y_bi x, y_bl left] m = y_rI (-1) m' ∧ q_F r_P3 m m' ∧ y_mI m' 49 0 = 0 ∧ q_V m' w) := by
  have hlt := c_rd_lt h1 h2 hr.2.1
  have hF0 : q_F r_P3 m (y_sI m 49 0 0) := q_F_sI (by unfold r_P3; unfold r_P at *; omega)
  have t241 := (t_241 (sp := sp) (ph := ph) (d := d + 5) (m := y_sI m 49 0 0) (L := L) (R := R) (t := t) (x := x) (by rw [e_II' (by omega)]; exact hL) (by rw [e_II' (by omega)]; exact hR) (by rw [e_II' (by omega)]; exact ht) h1 h2 h hx hx').1 hr
  have t179 := t_179a (sp := sp) (ph := ph) (d := d + 6) (m := y_sI m 49 0 0) e_II (x := 1)
  have hxx : ((x.toNat : Nat) : Int) = x := Int.toNat_of_nonneg hr.1
  constructor
  · intro u hu0 hu
    obtain ⟨m1, a1, a2, a3, a4, a5⟩ := t_244 (sp := sp) (ph := ph) (d := d) (m := y_sI m 49 0 0) (left := left) (t := u) hlt hr.2.2 (by rw [e_II' (by omega)]; exact hL) (by rw [e_II' (by omega)]; exact hw) h1 h3 hu0 hl1 hu
    obtain ⟨m2, b1, b2, b3, b4, b5⟩ := t_tk (sp := sp) (ph := ph) (d := d + 6) hlt hr.2.2 hu a3 a4 a5
    rw [hxx] at a1
    refine ⟨m2, ?_, q_F_trans hF0 (q_F_trans (q_F_mono a2 (fun a k h => by unfold r_P3; unfold r_P at *; omega)) (q_F_mono b2 (fun a k h => by unfold r_P3; unfold r_P at *; omega))), ?_, b3⟩
    · simp (disch := omega) only [y_C_245, y_E_245_0, y_E_245_18, y_E_245_19, y_E_245_28, y_E_245_39, z_w_id, if_pos, if_neg, e_g, e_bI, e_bV, e_bL, e_II, e_II', e_IJ, e_JI, e_JJ, e_JJ', reduceIte, not_true_eq_false, not_false_eq_true, true_or, or_true, true_and, and_true, e_nb0, e_gT, t241, t179, a1, a3, b1, b5]
      rw [b4]
    · rw [q_F_I b2 49 0 (by omega), q_F_I a2 49 0 (by unfold r_P; omega), e_II]
  · intro hu
    obtain ⟨m1, a1, a2⟩ := t_244n (sp := sp) (ph := ph) (d := d) (m := y_sI m 49 0 0) (left := left) hlt hr.2.2 (by rw [e_II' (by omega)]; exact hL) (by rw [e_II' (by omega)]; exact hw) h1 h3 hl0 hl1 hu
    rw [hxx] at a1
    refine ⟨m1, ?_, q_F_trans hF0 (q_F_mono a2 (fun a k h => by unfold r_P3; unfold r_P at *; omega)), ?_, ?_⟩
    · simp (disch := omega) only [y_C_245, y_E_245_0, y_E_245_18, y_E_245_19, y_E_245_28, z_w_id, if_pos, if_neg, e_g, e_bI, e_bV, e_bL, e_II, e_II', e_IJ, e_JI, e_JJ, e_JJ', reduceIte, not_true_eq_false, not_false_eq_true, true_or, or_true, true_and, and_true, e_nb0, e_gT, t241, t179, a1]
    · rw [q_F_I a2 49 0 (by unfold r_P; omega), e_II]
    · obtain ⟨v1, v2, v3⟩ := hV
      exact ⟨by rw [q_F_I a2 49 13 (by unfold r_P; omega), e_II' (by omega)]; exact v1, v2, fun i hi => by rw [q_F_I a2 54 i (by unfold r_P; omega), e_II' (by omega)]; exact v3 i hi⟩
theorem t_245b {x : Int} (hL : y_mI m 52 0 = (L : Int)) (hR : y_mI m 52 1 = (R : Int)) (ht : y_mI m 52 6 = (t : Int)) (h1 : L ≤ 6) (h2 : R ≤ 6) (h : t < 4096) (hx : -2147483648 ≤ x) (hx' : x < 2147483648) (hr : ¬ c_rd L R t x) : y_V sp ph (d + 8) 245 [y_bo 11 0 49, y_bi x, y_bl left] m = y_rI 0 (y_sI (y_sI m 49 0 0) 49 0 1) := by
  have t241 := (t_241 (sp := sp) (ph := ph) (d := d + 5) (m := y_sI m 49 0 0) (L := L) (R := R) (t := t) (x := x) (by rw [e_II' (by omega)]; exact hL) (by rw [e_II' (by omega)]; exact hR) (by rw [e_II' (by omega)]; exact ht) h1 h2 h hx hx').2 hr
  have t179 := t_179b (sp := sp) (ph := ph) (d := d + 6) (m := y_sI m 49 0 0) e_II (x := 1) (by omega) (by omega)
  simp (disch := omega) only [y_C_245, y_E_245_0, y_E_245_19, z_w_id, if_pos, if_neg, e_g, e_bI, e_bV, e_bL, e_II, e_II', e_IJ, e_JI, e_JJ, e_JJ', reduceIte, not_true_eq_false, not_false_eq_true, true_or, or_true, true_and, and_true, e_nb0, e_gT, t241, t179]
/-- drawn -/
theorem t_292a {x : Int} (hL : y_mI m 52 0 = (L : Int)) (hR : y_mI m 52 1 = (R : Int)) (ht : y_mI m 52 6 = (t : Int)) (hw : y_mI m 52 4 = (lw : Int)) (h1 : L ≤ 6) (h2 : R ≤ 6) (h : t < 4096) (h3 : lw ≤ 2) (hV : q_V m w) (hc : ¬ (3 ≤ n_pop (c_wh L R t) ∧ 1 ≤ c_cnt L lw (c_wh L R t))) : ∃ m', y_V sp ph (d + 8) 292 [y_bo 11 0 49, y_bi x] m = y_rI (-1) m' ∧ q_F r_P3 m m' ∧ y_mI m' 49 0 = 0 ∧ q_V m' w := by
  have hwl := c_wh_lt (t := t) h1 h2
  have hF0 : q_F r_P3 m (y_sI m 49 0 0) := q_F_sI (by unfold r_P3; unfold r_P at *; omega)
  have hp := n_pop_le hwl
  have t200 := t_200 (sp := sp) (ph := ph) (d := d + 5) (m := y_sI m 49 0 0) (L := L) (R := R) (t := t) (by rw [e_II' (by omega)]; exact hL) (by rw [e_II' (by omega)]; exact hR) (by rw [e_II' (by omega)]; exact ht) h1 h2 h
  have t201 := t_201 (sp := sp) (ph := ph) (d := d + 6) (m := y_sI m 49 0 0) hwl
  have fr : ∀ m1, q_F r_P (y_sI m 49 0 0) m1 → y_mI m1 49 0 = 0 ∧ q_V m1 w := fun m1 a2 => by
    obtain ⟨v1, v2, v3⟩ := hV
    exact ⟨by rw [q_F_I a2 49 0 (by unfold r_P; omega), e_II], by rw [q_F_I a2 49 13 (by unfold r_P; omega), e_II' (by omega)]; exact v1, v2, fun i hi => by rw [q_F_I a2 54 i (by unfold r_P; omega), e_II' (by omega)]; exact v3 i hi⟩
  have z0 : (z_w (z_lcmp 0 0) = 0) = True := by rw [n_lc_eq (by omega) (by omega) (by omega) (by omega)]; exact propext ⟨fun _ => trivial, fun _ => rfl⟩
  unfold c_wh at hp hc t201 hwl
  by_cases q : 3 ≤ n_pop (n_bd (2 ^ (L + R) - 1) t)
  · obtain ⟨m1, a1, a2⟩ := t_242 (sp := sp) (ph := ph) (d := d) (m := y_sI m 49 0 0) (L := L) (lw := lw) hwl (by omega) (by rw [e_II' (by omega)]; exact hL) (by rw [e_II' (by omega)]; exact hw) h1 h3
    have cb := c_cnt_b (L := L) (lw := lw) hwl
    have c0 : c_cnt L lw (n_bd (2 ^ (L + R) - 1) t) = 0 := by omega
    rw [c0] at a1
    refine ⟨m1, ?_, q_F_trans hF0 (q_F_mono a2 (fun a k h => by unfold r_P3; unfold r_P at *; omega)), (fr m1 a2).1, (fr m1 a2).2⟩
    simp (disch := omega) only [y_C_292, y_E_292_0, y_E_292_20, y_E_292_28, z_w_id, if_pos, if_neg, e_g, e_bI, e_bV, e_bL, e_II, e_II', e_IJ, e_JI, e_JJ, e_JJ', reduceIte, not_true_eq_false, not_false_eq_true, true_or, or_true, true_and, and_true, e_nb0, e_gT, t200, t201, a1, z0]
  · refine ⟨_, ?_, hF0, (fr _ q_F_refl).1, (fr _ q_F_refl).2⟩
    simp (disch := omega) only [y_C_292, y_E_292_0, y_E_292_28, z_w_id, if_pos, if_neg, e_g, e_bI, e_bV, e_bL, e_II, e_II', e_IJ, e_JI, e_JJ, e_JJ', reduceIte, not_true_eq_false, not_false_eq_true, true_or, or_true, true_and, and_true, e_nb0, e_gT, t200, t201, z0]
theorem t_292b {x : Int} {u : List Nat} (hL : y_mI m 52 0 = (L : Int)) (hR : y_mI m 52 1 = (R : Int)) (ht : y_mI m 52 6 = (t : Int)) (hw : y_mI m 52 4 = (lw : Int)) (h1 : L ≤ 6) (h2 : R ≤ 6) (h : t < 4096) (h3 : lw ≤ 2) (hp3 : 3 ≤ n_pop (c_wh L R t)) (hcn : 1 ≤ c_cnt L lw (c_wh L R t)) (hu : c_un1 L lw (n_low (c_wh L R t)) (w_rm (c_wh L R t) (n_low (c_wh L R t))) (z_iand x 2147483647 / 2 % c_cnt L lw (c_wh L R t)) = some u) : ∃ m', y_V sp ph (d + 8) 292 [y_bo 11 0 49, y_bi x] m = y_rI ((u.length : Int) + 1) m' ∧ q_F r_P3 m m' ∧ y_mI m' 49 0 = 0 ∧ q_V m' (n_low (c_wh L R t) :: u) := by
  have hwl := c_wh_lt (t := t) h1 h2
  have hF0 : q_F r_P3 m (y_sI m 49 0 0) := q_F_sI (by unfold r_P3; unfold r_P at *; omega)
  have hp := n_pop_le hwl
  have t200 := t_200 (sp := sp) (ph := ph) (d := d + 5) (m := y_sI m 49 0 0) (L := L) (R := R) (t := t) (by rw [e_II' (by omega)]; exact hL) (by rw [e_II' (by omega)]; exact hR) (by rw [e_II' (by omega)]; exact ht) h1 h2 h
  have t201 := t_201 (sp := sp) (ph := ph) (d := d + 6) (m := y_sI m 49 0 0) hwl
  have cb := c_cnt_b (L := L) (lw := lw) hwl
  obtain ⟨m1, a1, a2⟩ := t_242 (sp := sp) (ph := ph) (d := d) (m := y_sI m 49 0 0) (L := L) (lw := lw) hwl (by omega) (by rw [e_II' (by omega)]; exact hL) (by rw [e_II' (by omega)]; exact hw) h1 h3
  have gL : y_mI m1 52 0 = (L : Int) := by rw [q_F_I a2 52 0 (by unfold r_P; omega), e_II' (by omega)]; exact hL
  have gR : y_mI m1 52 1 = (R : Int) := by rw [q_F_I a2 52 1 (by unfold r_P; omega), e_II' (by omega)]; exact hR
  have gt : y_mI m1 52 6 = (t : Int) := by rw [q_F_I a2 52 6 (by unfold r_P; omega), e_II' (by omega)]; exact ht
  have gw : y_mI m1 52 4 = (lw : Int) := by rw [q_F_I a2 52 4 (by unfold r_P; omega), e_II' (by omega)]; exact hw
  have t200' := t_200 (sp := sp) (ph := ph) (d := d + 5) (m := m1) (L := L) (R := R) (t := t) gL gR gt h1 h2 h
  have si := n_31 x
  have sm : 0 ≤ z_iand x 2147483647 / 2 % c_cnt L lw (c_wh L R t) := Int.emod_nonneg _ (by omega)
  have sm2 : z_iand x 2147483647 / 2 % c_cnt L lw (c_wh L R t) < c_cnt L lw (c_wh L R t) := Int.emod_lt_of_pos _ (by omega)
  have er : z_lrem (z_w (z_idiv (z_iand x 2147483647) 2)) (c_cnt L lw (c_wh L R t)) = z_iand x 2147483647 / 2 % c_cnt L lw (c_wh L R t) := by
    rw [n_idiv si.1 si.2 (by omega) (by omega), z_w_id (by omega) (by omega), n_lrem (by omega) (by omega) (by omega) (by omega)]
  obtain ⟨m2, b1, b2, b3, b4, b5⟩ := t_244 (sp := sp) (ph := ph) (d := d) (m := m1) (left := z_iand x 2147483647 / 2 % c_cnt L lw (c_wh L R t)) (t := u) hwl hp3 gL gw h1 h3 sm (by omega) hu
  obtain ⟨m3, d1, d2, d3, d4, d5⟩ := t_tk (sp := sp) (ph := ph) (d := d + 6) hwl hp3 hu b3 b4 b5
  have nz : ¬ (z_w (z_lcmp (c_cnt L lw (c_wh L R t)) 0) = 0) := by rw [n_lc_eq (by omega) (by omega) (by omega) (by omega)]; omega
  have nz2 : z_wl (c_cnt L lw (c_wh L R t)) ≠ 0 := by rw [z_wl_id (by omega) (by omega)]; omega
  refine ⟨m3, ?_, q_F_trans hF0 (q_F_trans (q_F_mono a2 (fun a k h => by unfold r_P3; unfold r_P at *; omega)) (q_F_trans (q_F_mono b2 (fun a k h => by unfold r_P3; unfold r_P at *; omega)) (q_F_mono d2 (fun a k h => by unfold r_P3; unfold r_P at *; omega)))), ?_, d3⟩
  · unfold c_wh at *
    simp (disch := first | assumption | omega) only [y_C_292, y_E_292_0, y_E_292_20, y_E_292_28, y_E_292_37, z_w_id, if_pos, if_neg, e_g, e_bI, e_bV, e_bL, e_II, e_II', e_IJ, e_JI, e_JJ, e_JJ', reduceIte, not_true_eq_false, not_false_eq_true, true_or, or_true, true_and, and_true, e_nb0, e_gT, t200, t201, a1, t200', er, b1, b3, d1, d5]
    rw [d4]
  · rw [q_F_I d2 49 0 (by omega), q_F_I b2 49 0 (by unfold r_P; omega), q_F_I a2 49 0 (by unfold r_P; omega), e_II]
end Finds
