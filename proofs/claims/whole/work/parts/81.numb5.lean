section Numb
variable {sp : Nat → Nat} {ph : Bool} {d : Nat} {m : y_m} {a b c L R A B t lw X s sec : Nat} {first : Bool} {w : List Nat}
theorem c_K_F {P : Nat → Nat → Prop} {m m' : y_m} (h : c_K m L R A B t lw X w) (hF : q_F P m m') (h29 : ∀ k, ¬ P 29 k) (h30 : ∀ k, ¬ P 30 k) (h23 : ¬ P 23 1) (h24 : ∀ k, ¬ P 24 k) : c_K m' L R A B t lw X w := by
  have hc : y_mc m' = y_mc m := hF.2.2.1
  have hb : ∀ k, y_mI m' (y_mc m') k = y_mI m (y_mc m) k := by
    intro k
    rw [hc]
    rcases h.b with q | q
    · exact q_F_I hF _ k (by rw [q]; exact h29 k)
    · exact q_F_I hF _ k (by rw [q]; exact h30 k)
  obtain ⟨k1, k2, k3, k4, k5, k6, k7, k8, k9, k10, k11, k12, k13, k14, k15, k16, k17, k18⟩ := h
  exact ⟨by rw [hc]; exact k1, by rw [hb]; exact k2, by rw [hb]; exact k3, by rw [hb]; exact k4, by rw [hb]; exact k5, by rw [hb]; exact k6, by rw [hb]; exact k7, by rw [hb]; exact k8, k9, k10, k11, k12, k13, k14, q_W_F k15 hF h23 h24, k16, k17, k18⟩
theorem c_wh_in {j : Nat} : (c_wh L R t).testBit j = true → j < L + R := fun h => by
  rw [c_wh_bit, Bool.and_eq_true] at h
  exact of_decide_eq_true h.1
theorem s_166a {x : Int} (hK : c_K m L R A B t lw X w) (hWs : c_Ws m) (hc : ¬ (3 ≤ n_pop (c_wh L R t) ∧ 1 ≤ c_cnt L lw (c_wh L R t))) : ∃ m', y_V sp ph (d + 7) 166 [y_bo 10 0 0, y_bi x] m = y_rI (-1) m' ∧ q_F c_P3 m m' ∧ c_Ws m' ∧ q_W m' 23 w := by
  have hlt := c_wh_lt (t := t) hK.l6 hK.r6
  have s41 := s_41 (sp := sp) (ph := ph) (d := d + 4) hK.eL hK.eR hK.et hK.l6 hK.r6 hK.t4
  have s41' : y_V sp ph (d + 6) 41 [y_bo 0 0 (y_mc m)] m = y_rI (c_wh L R t : Int) m := s41
  have hp12 := n_pop_le hlt
  have hb := hK.b
  have bd := c_cnt_b (L := L) (lw := lw) hlt
  by_cases hp : 3 ≤ n_pop (c_wh L R t)
  · have hn0 : 0 < c_wh L R t := by
      rcases Nat.eq_zero_or_pos (c_wh L R t) with q | q
      · rw [q, show n_pop 0 = 0 from by decide] at hp; omega
      · exact q
    obtain ⟨m1, a1, a2, a3⟩ := s_91 (sp := sp) (ph := ph) (d := d) (R := R) (by omega) (by omega) hK.eL hK.ew hK.l6 hK.r6 hK.w2 (fun j => c_wh_in) hlt hn0 hWs
    have hcn : c_cnt L lw (c_wh L R t) < 1 := by
      rcases Int.lt_or_le (c_cnt L lw (c_wh L R t)) 1 with q | q
      · exact q
      · exact absurd ⟨hp, q⟩ hc
    refine ⟨m1, ?_, q_F_mono a2 (fun x k h => Or.inl (Or.inl h)), a3, q_W_F hK.W a2 (by unfold c_P; omega) (by unfold c_P; omega)⟩
    simp (disch := omega) only [y_C_166, y_E_166_0, y_E_166_20, y_E_166_32, z_w_id, if_pos, if_neg, e_g, e_bI, e_bV, e_bL, e_II, e_II', e_IJ, e_JI, e_JJ, e_JJ', reduceIte, not_true_eq_false, not_false_eq_true, true_or, or_true, true_and, and_true, e_nb0, e_gT, s41', s_1, a1, n_lc_ge]
  · refine ⟨m, ?_, q_F_refl, hWs, hK.W⟩
    simp (disch := omega) only [y_C_166, y_E_166_0, y_E_166_20, y_E_166_32, z_w_id, if_pos, if_neg, e_g, e_bI, e_bV, e_bL, e_II, e_II', e_IJ, e_JI, e_JJ, e_JJ', reduceIte, not_true_eq_false, not_false_eq_true, true_or, or_true, true_and, and_true, e_nb0, e_gT, s41', s_1, n_lc_ge]
theorem s_166b {x : Int} (hK : c_K m L R A B t lw X w) (hWs : c_Ws m) (hp : 3 ≤ n_pop (c_wh L R t)) (hcn : 1 ≤ c_cnt L lw (c_wh L R t)) : ∃ u, c_un1 L lw (n_low (c_wh L R t)) (w_rm (c_wh L R t) (n_low (c_wh L R t))) (z_iand x 2147483647 / 2 % c_cnt L lw (c_wh L R t)) = some u ∧ ∃ m', y_V sp ph (d + 7) 166 [y_bo 10 0 0, y_bi x] m = y_rI ((u.length : Int) + 1) m' ∧ q_F c_P3 m m' ∧ c_Ws m' ∧ q_W m' 23 (n_low (c_wh L R t) :: u) := by
  have hlt := c_wh_lt (t := t) hK.l6 hK.r6
  have s41 := s_41 (sp := sp) (ph := ph) (d := d + 4) hK.eL hK.eR hK.et hK.l6 hK.r6 hK.t4
  have s41' : y_V sp ph (d + 6) 41 [y_bo 0 0 (y_mc m)] m = y_rI (c_wh L R t : Int) m := s41
  have hp12 := n_pop_le hlt
  have hb := hK.b
  have bd := c_cnt_b (L := L) (lw := lw) hlt
  have hn0 : 0 < c_wh L R t := by
    rcases Nat.eq_zero_or_pos (c_wh L R t) with q | q
    · rw [q, show n_pop 0 = 0 from by decide] at hp; omega
    · exact q
  obtain ⟨m1, a1, a2, a3⟩ := s_91 (sp := sp) (ph := ph) (d := d) (R := R) (by omega) (by omega) hK.eL hK.ew hK.l6 hK.r6 hK.w2 (fun j => c_wh_in) hlt hn0 hWs
  have hK1 := c_K_F hK a2 (by unfold c_P; omega) (by unfold c_P; omega) (by unfold c_P; omega) (by unfold c_P; omega)
  have hy := n_31 x
  have hq0 : 0 ≤ z_iand x 2147483647 / 2 := Int.ediv_nonneg hy.1 (by decide)
  have hq1 : z_iand x 2147483647 / 2 ≤ z_iand x 2147483647 := Int.ediv_le_self _ hy.1
  have hr0 : 0 ≤ z_iand x 2147483647 / 2 % c_cnt L lw (c_wh L R t) := Int.emod_nonneg _ (by omega)
  have hr1 : z_iand x 2147483647 / 2 % c_cnt L lw (c_wh L R t) < c_cnt L lw (c_wh L R t) := Int.emod_lt_of_pos _ (by omega)
  obtain ⟨u, hu⟩ := c_un1_some hlt (show 2 ≤ n_pop (c_wh L R t) by omega) hr0 hr1
  refine ⟨u, hu, ?_⟩
  have eleft : z_lrem (z_w (z_idiv (z_iand x 2147483647) 2)) (c_cnt L lw (c_wh L R t)) = z_iand x 2147483647 / 2 % c_cnt L lw (c_wh L R t) := by
    rw [n_idiv hy.1 hy.2 (by decide) (by decide), z_w_id (by omega) (by omega), n_lrem hq0 (by omega) (by omega) (by omega)]
  obtain ⟨m2, c1, c2, c3, c4⟩ := s_147x (sp := sp) (ph := ph) (d := d) (n := c_wh L R t) hK1 a3 (fun j h => h) hlt hp (left := z_iand x 2147483647 / 2 % c_cnt L lw (c_wh L R t)) (by omega) (by omega)
  rw [if_pos ⟨hr0, by rw [hu]; rfl⟩] at c1
  obtain ⟨m3, b1, b2, b3⟩ := s_173 (sp := sp) (ph := ph) (d := d + 2) (List.cons_ne_nil _ _) (c4 u hr0 hu)
  have hwl : z_wl (c_cnt L lw (c_wh L R t)) ≠ 0 := by rw [z_wl_id (by omega) (by omega)]; omega
  refine ⟨m3, ?_, q_F_trans (q_F_mono a2 (fun x k h => Or.inl (Or.inl h))) (q_F_trans (q_F_mono c2 (fun x k h => Or.inl h)) (q_F_mono b2 (fun x k h => Or.inr h))), c_Ws_F c3 b2 (by omega) (by omega), b3⟩
  simp (disch := first | exact hwl | omega) only [y_C_166, y_E_166_0, y_E_166_20, y_E_166_32, y_E_166_41, y_E_166_82, z_w_id, if_pos, if_neg, e_g, e_bI, e_bV, e_bL, e_II, e_II', e_IJ, e_JI, e_JJ, e_JJ', reduceIte, not_true_eq_false, not_false_eq_true, true_or, or_true, true_and, and_true, e_nb0, e_gT, s41', s_1, a1, n_lc_ge, eleft, c1, b1]
  rw [List.length_cons, Int.natCast_add]; rfl
theorem s_145a (hK : c_K m L R A B t lw X []) : y_V sp true (d + 2) 145 [y_bo 10 0 0] m = some (.inr 2, y_tm m) := by
  simp (disch := omega) only [y_C_145, y_E_145_0, y_E_145_26, z_w_id, if_pos, if_neg, e_g, e_bI, e_bV, e_bL, e_II, e_II', e_IJ, e_JI, e_JJ, e_JJ', reduceIte, not_true_eq_false, not_false_eq_true, true_or, or_true, true_and, and_true, e_nb0, e_gT, s_171n hK.W]
  rfl
theorem q_judge_r (hb : ∀ h ∈ w, h < 12) : ∀ (k i : Nat), i + k ≤ w.length → -1 ≤ q_judge L lw w i k ∧ q_judge L lw w i k < 12 := by
  intro k
  induction k with
  | zero => intro i _; rw [q_judge]; omega
  | succ k ih =>
    intro i hi
    rw [q_judge]
    have hn : w ≠ [] := fun q => by rw [q] at hi; simp at hi
    have := hb _ (q_at_mem (i := (i : Int)) hn)
    rw [q_at_nat (by omega)] at this
    split
    · exact ih (i + 1) (by omega)
    · omega
theorem s_145b (hK : c_K m L R A B t lw X w) (hn : w ≠ []) (hj : q_judge L lw w 0 w.length ≠ -1) : y_V sp ph (d + 5) 145 [y_bo 10 0 0] m = y_rL (-1) m := by
  have s72 := s_72 (sp := sp) (ph := ph) (d := d) hK.W hn (c_K_12 hK) hK.eL hK.l6 hK.ew hK.w2
  have := q_judge_r (L := L) (lw := lw) (c_K_12 hK) w.length 0 (by omega)
  simp (disch := omega) only [y_C_145, y_E_145_0, y_E_145_26, z_w_id, if_pos, if_neg, e_g, e_bI, e_bV, e_bL, e_II, e_II', e_IJ, e_JI, e_JJ, e_JJ', reduceIte, not_true_eq_false, not_false_eq_true, true_or, or_true, true_and, and_true, e_nb0, e_gT, s_171y hK.W hn, s72]
theorem s_145c (hK : c_K m L R A B t lw X w) (hWs : c_Ws m) (hn : w ≠ []) (hj : q_judge L lw w 0 w.length = -1) : ∃ m', y_V sp ph (d + 7) 145 [y_bo 10 0 0] m = y_rL (c_num L lw w) m' ∧ q_F c_P3 m m' ∧ c_Ws m' ∧ q_W m' 23 w := by
  have s72 := s_72 (sp := sp) (ph := ph) (d := d + 2) hK.W hn (c_K_12 hK) hK.eL hK.l6 hK.ew hK.w2
  obtain ⟨m1, a1, a2, a3⟩ := s_70 (sp := sp) (ph := ph) (d := d + 2) (a := 20) (c := 23) (by omega) (by omega) (by omega) hK.W hn (c_K_12 hK)
  have hK1 := c_K_F hK a2 (by omega) (by omega) (by omega) (by omega)
  have hWs1 := c_Ws_F hWs a2 (by omega) (by omega)
  have hb := hK1.b
  have hlen : 3 ≤ w.length := by
    rcases hK.len with q | q
    · exact absurd q hn
    · exact q
  have hlow := q_low_own hn (c_K_12 hK)
  obtain ⟨h1, t1, ht⟩ : ∃ h1 t1, q_tl w = h1 :: t1 := by
    cases q : q_tl w with
    | nil =>
      have := congrArg List.length q
      unfold q_tl at this
      rw [List.length_map, List.length_range] at this
      simp at this
      omega
    | cons h1 t1 => exact ⟨h1, t1, rfl⟩
  have eo : q_own w = n_low (q_bits w) :: h1 :: t1 := by rw [q_own_cons hn, ht, hlow]
  obtain ⟨m2, b1, b2, b3⟩ := s_92 (sp := sp) (ph := ph) (d := d) (R := R) (a := 20) (by omega) (by omega) (by omega) hK1.eL hK1.ew hK1.l6 hK1.r6 hK1.w2 a3 eo (by rw [q_bits_own]) (fun h hh => c_K_lt hK h (q_own_mem.mp hh)) hWs1
  rw [q_bits_own] at b1
  refine ⟨m2, ?_, q_F_trans (q_F_mono a2 (fun x k h => Or.inl (Or.inr (by omega)))) (q_F_mono b2 (fun x k h => Or.inl (Or.inl h))), b3, q_W_F hK1.W b2 (by unfold c_P; omega) (by unfold c_P; omega)⟩
  have z : z_w (-1) = -1 := z_w_id (by omega) (by omega)
  simp (disch := omega) only [y_C_145, y_E_145_0, y_E_145_26, z_w_id, if_pos, if_neg, e_g, e_bI, e_bV, e_bL, e_II, e_II', e_IJ, e_JI, e_JJ, e_JJ', reduceIte, not_true_eq_false, not_false_eq_true, true_or, or_true, true_and, and_true, e_nb0, e_gT, s_171y hK.W hn, s72, hj, a1, b1]
  unfold c_num
  rw [ht]
end Numb
