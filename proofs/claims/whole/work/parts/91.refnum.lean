section Num
variable {sp : Nat → Nat} {ph : Bool} {d : Nat} {m : y_m} {L R A B t lw X s S h : Nat} {w : List Nat}
theorem l_248 (hH : r_H m S) (hS : S < 4096) (hb : S.testBit h = true) : ∀ (n i : Nat), i + n = r_ix S h → y_R sp ph d 248 2 [some (y_bo 11 0 49), some (y_bi (h : Int)), some (y_bi (i : Int))] [] m = y_rI (r_ix S h : Int) m := by
  have h12 := n_tb_lt hS hb
  have hlt := r_ix_lt hb h12
  rw [r_ix_12] at hlt
  have hp := n_pop_le hS
  intro n
  induction n with
  | zero =>
    intro i hi
    have e : y_mI m 94 i = (h : Int) := by rw [hH.2 i (by omega), show i = r_ix S h by omega, r_hs_ix hb h12]
    rw [y_E_248_2]
    simp (disch := omega) only [z_w_id, if_pos, if_neg, e_g, e_bI, e_bV, e_bL, e_II, e_II', e_IJ, e_JI, e_JJ, e_JJ', reduceIte, not_true_eq_false, not_false_eq_true, true_or, or_true, true_and, and_true, e_nb0, e_gT, Int.toNat_natCast, e, y_E_248_18]
    rw [show i = r_ix S h by omega]
  | succ n ih =>
    intro i hi
    have e := hH.2 i (by omega)
    have b := r_hs_B (S := S) (show i < n_pop S by omega)
    have ne : r_hs S i ≠ h := fun q => by
      have := b.2.2
      rw [q] at this
      omega
    rw [y_E_248_2]
    simp (disch := omega) only [z_w_id, if_pos, if_neg, e_g, e_bI, e_bV, e_bL, e_II, e_II', e_IJ, e_JI, e_JJ, e_JJ', reduceIte, not_true_eq_false, not_false_eq_true, true_or, or_true, true_and, and_true, e_nb0, e_gT, Int.toNat_natCast, e]
    exact ih (i + 1) (by omega)
theorem t_248 (hH : r_H m S) (hS : S < 4096) (hb : S.testBit h = true) : y_V sp ph (d + 1) 248 [y_bo 11 0 49, y_bi (h : Int)] m = y_rI (r_ix S h : Int) m := by
  have l := l_248 (sp := sp) (ph := ph) (d := d) hH hS hb (r_ix S h) 0 (by omega)
  simp (disch := omega) only [y_C_248, y_E_248_0, z_w_id, if_pos, if_neg, e_g, e_bI, e_bV, e_bL, e_II, e_II', e_IJ, e_JI, e_JJ, e_JJ', reduceIte, not_true_eq_false, not_false_eq_true, true_or, or_true, true_and, and_true, e_nb0, e_gT]
  exact l
theorem l_246 (hw : q_V m w) (hb : ∀ h ∈ w, h < 12) : ∀ (k i : Nat) (b : Nat), i + k = w.length → b < 4096 → y_R sp ph d 246 4 [some (y_bo 11 0 49), some (y_bi (b : Int)), some (y_bi (i : Int))] [] m = y_rI ((((w.drop i).foldl (fun b h => b ||| 1 <<< h) b : Nat)) : Int) m := by
  obtain ⟨e1, e2, e3⟩ := hw
  intro k
  induction k with
  | zero =>
    intro i b h hb4
    rw [y_E_246_4]
    simp (disch := omega) only [z_w_id, if_pos, if_neg, e_g, e_bI, e_bV, e_bL, e_II, e_II', e_IJ, e_JI, e_JJ, e_JJ', reduceIte, not_true_eq_false, not_false_eq_true, true_or, or_true, true_and, and_true, e_nb0, e_gT, e1, y_E_246_29]
    rw [List.drop_eq_nil_of_le (by omega)]; rfl
  | succ k ih =>
    intro i b h hb4
    have hi : i < w.length := by omega
    have hn : w ≠ [] := by intro q; rw [q] at hi; exact absurd hi (Nat.not_lt_zero _)
    have hg : w.getD i 0 < 12 := by rw [← q_at_nat hi]; exact hb _ (q_at_mem hn)
    have hpow : 1 <<< w.getD i 0 < 2 ^ 12 := by rw [Nat.one_shiftLeft]; exact Nat.pow_lt_pow_right (by decide) hg
    have hor : b ||| 1 <<< w.getD i 0 < 2 ^ 12 := Nat.or_lt_two_pow hb4 hpow
    have e4 := e3 i hi
    have eo : z_ior (b : Int) (z_ishl 1 ((w.getD i 0 : Nat) : Int)) = ((b ||| 1 <<< w.getD i 0 : Nat) : Int) := by
      rw [show (1 : Int) = ((1 : Nat) : Int) from rfl, n_ishl (by omega) (by omega), n_ior (by omega) (by omega)]
    rw [y_E_246_4]
    simp (disch := omega) only [z_w_id, if_pos, if_neg, e_g, e_bI, e_bV, e_bL, e_II, e_II', e_IJ, e_JI, e_JJ, e_JJ', reduceIte, not_true_eq_false, not_false_eq_true, true_or, or_true, true_and, and_true, e_nb0, e_gT, e1, Int.toNat_natCast, e4, eo]
    rw [show (i : Int) + 1 = ((i + 1 : Nat) : Int) by omega, ih (i + 1) _ (by omega) hor, List.drop_eq_getElem_cons hi, List.foldl_cons]
    rw [List.getD_eq_getElem?_getD, List.getElem?_eq_getElem hi]; rfl
theorem t_246 (hw : q_V m w) (hb : ∀ h ∈ w, h < 12) : y_V sp ph (d + 1) 246 [y_bo 11 0 49] m = y_rI (q_bits w : Int) m := by
  simp (disch := omega) only [y_C_246, y_E_246_0, z_w_id, if_pos, if_neg, e_g, e_bI, e_bV, e_bL, e_II, e_II', e_IJ, e_JI, e_JJ, e_JJ', reduceIte, not_true_eq_false, not_false_eq_true, true_or, or_true, true_and, and_true, e_nb0, e_gT]
  exact l_246 hw hb w.length 0 0 (by omega) (by omega)
theorem n_bits_nd (S : Nat) : (n_bits S).Nodup := by
  unfold n_bits
  exact List.Nodup.sublist List.filter_sublist List.nodup_range
theorem n_pop_bits {w : List Nat} (hn : w.Nodup) (hb : ∀ h ∈ w, h < 12) : n_pop (q_bits w) = w.length := by
  refine List.Perm.length_eq ((List.perm_ext_iff_of_nodup (n_bits_nd _) hn).mpr fun h => ?_)
  rw [n_bits_mem, q_bits_bit, decide_eq_true_iff]
  exact ⟨fun q => q.2, fun q => ⟨hb h q, q⟩⟩
/-- count, to the reference -/
theorem t_243a {x : Int} (hL : y_mI m 52 0 = (L : Int)) (hR : y_mI m 52 1 = (R : Int)) (ht : y_mI m 52 6 = (t : Int)) (hw : y_mI m 52 4 = (lw : Int)) (h1 : L ≤ 6) (h2 : R ≤ 6) (h : t < 4096) (h3 : lw ≤ 2) (hx : -2147483648 ≤ x) (hx' : x < 2147483648) (hr : c_rd L R t x) : ∃ m', y_V sp ph (d + 8) 243 [y_bo 11 0 49, y_bi x] m = y_rL (c_cnt L lw x.toNat) m' ∧ q_F (fun a k => r_P a k ∨ (a = 49 ∧ k = 0)) m m' ∧ y_mI m' 49 0 = 0 := by
  have hlt := c_rd_lt h1 h2 hr.2.1
  have hF0 : q_F (fun a k => r_P a k ∨ (a = 49 ∧ k = 0)) m (y_sI m 49 0 0) := q_F_sI (by omega)
  have t241 := (t_241 (sp := sp) (ph := ph) (d := d + 5) (m := y_sI m 49 0 0) (L := L) (R := R) (t := t) (x := x) (by rw [e_II' (by omega)]; exact hL) (by rw [e_II' (by omega)]; exact hR) (by rw [e_II' (by omega)]; exact ht) h1 h2 h hx hx').1 hr
  have t179 := t_179a (sp := sp) (ph := ph) (d := d + 6) (m := y_sI m 49 0 0) e_II (x := 1)
  have hp : 2 ≤ n_pop x.toNat := by have := hr.2.2; omega
  obtain ⟨m1, a1, a2⟩ := t_242 (sp := sp) (ph := ph) (d := d) (m := y_sI m 49 0 0) (L := L) (lw := lw) hlt hp (by rw [e_II' (by omega)]; exact hL) (by rw [e_II' (by omega)]; exact hw) h1 h3
  rw [Int.toNat_of_nonneg hr.1] at a1
  refine ⟨m1, ?_, q_F_trans hF0 (q_F_mono a2 (fun a k h => Or.inl h)), by rw [q_F_I a2 49 0 (by unfold r_P; omega), e_II]⟩
  simp (disch := omega) only [y_C_243, y_E_243_0, y_E_243_18, y_E_243_19, y_E_243_28, z_w_id, if_pos, if_neg, e_g, e_bI, e_bV, e_bL, e_II, e_II', e_IJ, e_JI, e_JJ, e_JJ', reduceIte, not_true_eq_false, not_false_eq_true, true_or, or_true, true_and, and_true, e_nb0, e_gT, t241, t179, a1]
theorem t_243b {x : Int} (hL : y_mI m 52 0 = (L : Int)) (hR : y_mI m 52 1 = (R : Int)) (ht : y_mI m 52 6 = (t : Int)) (h1 : L ≤ 6) (h2 : R ≤ 6) (h : t < 4096) (hx : -2147483648 ≤ x) (hx' : x < 2147483648) (hr : ¬ c_rd L R t x) : y_V sp ph (d + 8) 243 [y_bo 11 0 49, y_bi x] m = y_rL 0 (y_sI (y_sI m 49 0 0) 49 0 1) := by
  have t241 := (t_241 (sp := sp) (ph := ph) (d := d + 5) (m := y_sI m 49 0 0) (L := L) (R := R) (t := t) (x := x) (by rw [e_II' (by omega)]; exact hL) (by rw [e_II' (by omega)]; exact hR) (by rw [e_II' (by omega)]; exact ht) h1 h2 h hx hx').2 hr
  have t179 := t_179b (sp := sp) (ph := ph) (d := d + 6) (m := y_sI m 49 0 0) e_II (x := 1) (by omega) (by omega)
  simp (disch := omega) only [y_C_243, y_E_243_0, y_E_243_18, y_E_243_19, z_w_id, if_pos, if_neg, e_g, e_bI, e_bV, e_bL, e_II, e_II', e_IJ, e_JI, e_JJ, e_JJ', reduceIte, not_true_eq_false, not_false_eq_true, true_or, or_true, true_and, and_true, e_nb0, e_gT, t241, t179]
end Num
