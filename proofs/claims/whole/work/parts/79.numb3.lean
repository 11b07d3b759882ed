theorem n_31 (x : Int) : 0 ≤ z_iand x 2147483647 ∧ z_iand x 2147483647 < 2147483648 := by
  have e : ((Int32.ofInt x).toBitVec &&& (Int32.ofInt 2147483647).toBitVec).toNat < 2147483648 := by
    rw [BitVec.toNat_and]
    exact Nat.lt_of_le_of_lt Nat.and_le_right (by decide)
  have e2 : z_iand x 2147483647 = (((Int32.ofInt x).toBitVec &&& (Int32.ofInt 2147483647).toBitVec).toNat : Int) := by
    show (Int32.ofInt x &&& Int32.ofInt 2147483647).toBitVec.toInt = _
    rw [Int32.toBitVec_and, n_ti (by omega)]
  omega
def c_cntb : Int := 12 * 8916100448256
theorem c_cnt_b {L lw S : Nat} (hS : S < 4096) : 0 ≤ c_cnt L lw S ∧ c_cnt L lw S ≤ 106993205379072 := by
  unfold c_cnt
  have hr := w_rm_low hS
  constructor
  · exact q_S_nonneg _ _ fun j _ _ => (c_f1_b hr j).1
  · exact q_S_le 12 0 fun j _ _ => (c_f1_b hr j).2
section Numb
variable {sp : Nat → Nat} {ph : Bool} {d : Nat} {m : y_m} {a b c L R A B t lw X s sec : Nat} {first : Bool} {w : List Nat}
theorem l_64 (hac : a ≠ c) (hac' : a + 1 ≠ c) (hca : c + 1 ≠ a) (hn : w ≠ []) : ∀ (n i : Nat) (m : y_m), i + n = w.length → y_mI m a 1 = w.length → q_W m c w → (∀ j, j < i → y_mI m (a + 1) j = ((w.getD j 0 : Nat) : Int)) → ∃ m', y_R sp ph (d + 2) 64 10 [some (y_bo 8 0 a), some (y_bo 8 0 c), some (y_bi (i : Int))] [] m = y_rV m' ∧ q_F (fun y k => (y = a ∧ k = 1) ∨ y = a + 1) m m' ∧ q_W m' a w := by
  intro n
  induction n with
  | zero =>
    intro i m h ha hW hA
    have hlen := hW.2.1
    refine ⟨m, ?_, q_F_refl, ha, hlen, fun j hj => hA j (by omega)⟩
    rw [y_E_64_10]
    simp (disch := omega) only [z_w_id, if_pos, if_neg, e_g, e_bI, e_bV, e_bL, e_II, e_II', e_IJ, e_JI, e_JJ, e_JJ', reduceIte, not_true_eq_false, not_false_eq_true, true_or, or_true, true_and, and_true, e_nb0, e_gT, ha, y_E_64_37]
  | succ n ih =>
    intro i m h ha hW hA
    have hlen := hW.2.1
    have hF : q_F (fun y k => (y = a ∧ k = 1) ∨ y = a + 1) m (y_sI m (a + 1) i (q_at w (i : Int))) := q_F_sI (by omega)
    obtain ⟨m2, b1, b2, b3⟩ := ih (i + 1) _ (by omega) (by rw [q_F_I (q_F_sI (S := fun y k => y = a + 1) (m := m) (a := a + 1) (k := i) (x := (q_at w (i : Int) : Int)) rfl) a 1 (by omega)]; exact ha) (q_W_F hW hF (by omega) (by omega)) (fun j hj => by
      by_cases q : j = i
      · subst q
        rw [e_II, q_at_nat (by omega)]
      · rw [e_II' (by omega)]; exact hA j (by omega))
    refine ⟨m2, ?_, q_F_trans hF b2, b3⟩
    rw [y_E_64_10]
    simp (disch := omega) only [z_w_id, if_pos, if_neg, e_g, e_bI, e_bV, e_bL, e_II, e_II', e_IJ, e_JI, e_JJ, e_JJ', reduceIte, not_true_eq_false, not_false_eq_true, true_or, or_true, true_and, and_true, e_nb0, e_gT, ha, s_65 hW hn, s_8, Int.toNat_natCast]
    exact b1
theorem s_64 (hac : a ≠ c) (hac' : a + 1 ≠ c) (hca : c + 1 ≠ a) (hn : w ≠ []) (hW : q_W m c w) : ∃ m', y_V sp ph (d + 3) 64 [y_bo 8 0 a, y_bo 8 0 c] m = y_rV m' ∧ q_F (fun y k => (y = a ∧ k = 1) ∨ y = a + 1) m m' ∧ q_W m' a w := by
  have hF : q_F (fun y k => (y = a ∧ k = 1) ∨ y = a + 1) m (y_sI m a 1 w.length) := q_F_sI (by omega)
  obtain ⟨m2, b1, b2, b3⟩ := l_64 (sp := sp) (ph := ph) (d := d) hac hac' hca hn w.length 0 _ (by omega) e_II (q_W_F hW hF (by omega) (by omega)) (fun j hj => absurd hj (by omega))
  refine ⟨m2, ?_, q_F_trans hF b2, b3⟩
  simp (disch := omega) only [y_C_64, y_E_64_0, z_w_id, if_pos, if_neg, e_g, e_bI, e_bV, e_bL, e_II, e_II', e_IJ, e_JI, e_JJ, e_JJ', reduceIte, not_true_eq_false, not_false_eq_true, true_or, or_true, true_and, and_true, e_nb0, e_gT, hW.1]
  exact b1
theorem s_173 (hn : w ≠ []) (hW : q_W m 20 w) : ∃ m', y_V sp ph (d + 4) 173 [y_bo 10 0 0] m = y_rI (w.length : Int) m' ∧ q_F (fun y k => (y = 23 ∧ k = 1) ∨ y = 24) m m' ∧ q_W m' 23 w := by
  obtain ⟨m2, b1, b2, b3⟩ := s_64 (sp := sp) (ph := ph) (d := d) (a := 23) (c := 20) (by omega) (by omega) (by omega) hn hW
  refine ⟨m2, ?_, b2, b3⟩
  simp (disch := omega) only [y_C_173, y_E_173_0, z_w_id, if_pos, if_neg, e_g, e_bI, e_bV, e_bL, e_II, e_II', e_IJ, e_JI, e_JJ, e_JJ', reduceIte, not_true_eq_false, not_false_eq_true, true_or, or_true, true_and, and_true, e_nb0, e_gT, b1, b3.1]
theorem s_146 {x : Int} (hK : c_K m L R A B t lw X w) (hWs : c_Ws m) (hx : c_rd L R t x) (h0 : -2147483648 ≤ x) (h1 : x < 2147483648) : ∃ m', y_V sp ph (d + 7) 146 [y_bo 10 0 0, y_bi x] m = y_rL (c_cnt L lw x.toNat) m' ∧ q_F c_P m m' ∧ c_Ws m' := by
  have s172 := (s_172 (sp := sp) (ph := ph) (d := d + 3) hK.eL hK.eR hK.et hK.l6 hK.r6 hK.t4 h0 h1).1 hx
  have hlt := c_rd_lt hK.l6 hK.r6 hx.2.1
  obtain ⟨n, hn⟩ : ∃ n : Nat, x = n := ⟨x.toNat, by have := hx.1; omega⟩
  subst hn
  rw [Int.toNat_natCast] at *
  have hbit := n_bd_0.mp hx.2.1
  have hp : 3 ≤ n_pop n := hx.2.2
  have hb := hK.b
  have hn0 : 0 < n := by
    rcases Nat.eq_zero_or_pos n with q | q
    · rw [q, show n_pop 0 = 0 from by decide] at hp; omega
    · exact q
  obtain ⟨m1, a1, a2, a3⟩ := s_91 (sp := sp) (ph := ph) (d := d) (R := R) (by omega) (by omega) hK.eL hK.ew hK.l6 hK.r6 hK.w2 (fun j hj => by
    have := hbit j hj
    rw [c_wh_bit, Bool.and_eq_true] at this
    exact of_decide_eq_true this.1) hlt hn0 hWs
  refine ⟨m1, ?_, a2, a3⟩
  simp (disch := omega) only [y_C_146, y_E_146_0, z_w_id, if_pos, if_neg, e_g, e_bI, e_bV, e_bL, e_II, e_II', e_IJ, e_JI, e_JJ, e_JJ', reduceIte, not_true_eq_false, not_false_eq_true, true_or, or_true, true_and, and_true, e_nb0, e_gT, s172, a1]
theorem s_147x {n : Nat} {left : Int} (hK : c_K m L R A B t lw X w) (hWs : c_Ws m) (hbit : ∀ j, n.testBit j = true → (c_wh L R t).testBit j = true) (hlt : n < 4096) (hp : 3 ≤ n_pop n) (hl0 : -9223372036854775808 ≤ left) (hl1 : left < 9223372036854775808) : ∃ m', y_V sp ph (d + 6) 93 [y_bo 1 0 6, y_bo 0 0 (y_mc m), y_bi (n : Int), y_bl left, y_bo 8 0 20] m = y_rI (if 0 ≤ left ∧ (c_un1 L lw (n_low n) (w_rm n (n_low n)) left).isSome = true then 1 else 0) m' ∧ q_F (c_Pa 20) m m' ∧ c_Ws m' ∧ ∀ t, 0 ≤ left → c_un1 L lw (n_low n) (w_rm n (n_low n)) left = some t → q_W m' 20 (n_low n :: t) := by
  have hb := hK.b
  exact s_93 (sp := sp) (ph := ph) (d := d) (R := R) (by omega) (by omega) (by omega) (by omega) (by omega) hK.eL hK.ew hK.l6 hK.r6 hK.w2 (fun j hj => by
    have := hbit j hj
    rw [c_wh_bit, Bool.and_eq_true] at this
    exact of_decide_eq_true this.1) hlt (by omega) hWs hl0 hl1
end Numb
