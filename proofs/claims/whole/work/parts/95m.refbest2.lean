/-- what the reference needs when it looks for the best -/
def m_Cb (m : y_m) (L R A B lw S : Nat) : Prop := r_Cx m L lw S ∧ y_mI m 52 2 = A ∧ y_mI m 52 3 = B ∧ q_RR m A B ∧ m_B L R A B ∧ ∀ j, S.testBit j = true → j < L + R
noncomputable def m_bw (A B L lw what S been j : Nat) (i f : Bool) : Int := m_bv A B L lw what (r_hs S 0) (n_pop (r_rest S been)) (r_hs S j) i (r_rest S been) f
def m_bs (m : y_m) (L A B lw what S lo : Nat) : Prop := ∀ been, lo ≤ been → been < 2 ^ (n_pop S - 1) → ∀ j, 1 ≤ j → j < n_pop S → been.testBit (j - 1) = true → ∀ i f, y_mJ m 96 (r_wi been j i f) = m_bw A B L lw what S been j i f
section Best
variable {sp : Nat → Nat} {ph : Bool} {d : Nat} {m : y_m} {L R A B lw what S been idx : Nat} {i f : Bool}
theorem m_Cb_F {P : Nat → Nat → Prop} {m' : y_m} (h : m_Cb m L R A B lw S) (hF : q_F P m m') (hP : ∀ a k, P a k → ¬ q_wr a ∧ a ≠ 52 ∧ a ≠ 94 ∧ (a ≠ 49 ∨ k ≠ 33)) : m_Cb m' L R A B lw S := by
  obtain ⟨⟨g1, g2, g3, g4, ⟨g5, g6⟩, g7, g8⟩, h2, h3, h4, h5, h6⟩ := h
  refine ⟨⟨?_, ?_, g3, g4, ⟨?_, fun j hj => ?_⟩, g7, g8⟩, ?_, ?_, q_RR_F h4 hF (fun a k q => ⟨(hP a k q).1, Or.inl (hP a k q).2.1⟩), h5, h6⟩
  · rw [q_F_I hF 52 0 (fun q => (hP _ _ q).2.1 rfl)]; exact g1
  · rw [q_F_I hF 52 4 (fun q => (hP _ _ q).2.1 rfl)]; exact g2
  · rw [q_F_I hF 49 33 (fun q => (hP _ _ q).2.2.2.elim (fun r => r rfl) (fun r => r rfl))]; exact g5
  · rw [q_F_I hF 94 j (fun q => (hP _ _ q).2.2.1 rfl)]; exact g6 j hj
  · rw [q_F_I hF 52 2 (fun q => (hP _ _ q).2.1 rfl)]; exact h2
  · rw [q_F_I hF 52 3 (fun q => (hP _ _ q).2.1 rfl)]; exact h3
theorem m_Cb_B {j : Nat} (h : m_Cb m L R A B lw S) (hj : j < n_pop S) : r_hs S j < L + R := h.2.2.2.2.2 _ (r_hs_B hj).2.1
theorem m_bw_rf {j : Nat} (h : m_Cb m L R A B lw S) (hw : what ≤ 2) (hb : been < 2 ^ (n_pop S - 1)) (h1 : 1 ≤ j) (hj : j < n_pop S) (hbit : been.testBit (j - 1) = true) : m_rf what L A B (m_bw A B L lw what S been j i f) (m_h lw (r_x L) (r_hs S 0) (n_pop (r_rest S been)) (r_hs S j) i (r_rest S been) f) := by
  have hS := h.1.2.2.2.2.2.1
  have hk := h.1.2.2.2.2.2.2
  refine m_bv_rf h.2.2.2.2.1 hw (m_Cb_B h (by omega)) _ _ _ _ _ (n_pop_le (r_rest_lt S been)) (m_Cb_B h hj) ?_ ?_ ?_ ?_
  · intro e
    have a := (r_hs_lt (S := S) (show 0 < n_pop S by omega) hj).mpr (by omega)
    omega
  · cases c : (r_rest S been).testBit (r_hs S j)
    · rfl
    · rw [(r_rest_hs hS h1 hj).mp c] at hbit; cases hbit
  · cases c : (r_rest S been).testBit (r_hs S 0)
    · rfl
    · have := ((r_rest_bit hS).mp c).2.1
      rw [(r_hs_B (show 0 < n_pop S by omega)).2.2] at this; omega
  · intro x hx
    exact h.2.2.2.2.2 x ((r_rest_bit hS).mp hx).1
theorem m_h_E {s n last rest : Nat} {E : List (Nat × Nat)} (hs : s < L + R) (hn : n ≤ 12) (hl : last < L + R) (hls : last ≠ s) (h1 : rest.testBit last = false) (h2 : rest.testBit s = false) (h3 : ∀ x, rest.testBit x = true → x < L + R) (g : m_h lw (r_x L) s n last i rest f E) : m_E L R E := by
  have := m_h_ok hs n last i rest f E hl hls h1 h2 h3 g
  exact ⟨⟨this.1, this.2.1⟩, by rw [this.2.2.1]; omega⟩
theorem m_bw_b {j : Nat} (h : m_Cb m L R A B lw S) (hw : what ≤ 2) (hb : been < 2 ^ (n_pop S - 1)) (h1 : 1 ≤ j) (hj : j < n_pop S) (hbit : been.testBit (j - 1) = true) : -1 ≤ m_bw A B L lw what S been j i f ∧ m_bw A B L lw what S been j i f < 167772160000 := by
  have hS := h.1.2.2.2.2.2.1
  have hk := h.1.2.2.2.2.2.2
  refine m_rf_b h.2.2.2.2.1 (fun E g => m_h_E (m_Cb_B h (by omega)) (n_pop_le (r_rest_lt S been)) (m_Cb_B h hj) ?_ ?_ ?_ ?_ g) (m_bw_rf h hw hb h1 hj hbit)
  · intro e
    have a := (r_hs_lt (S := S) (show 0 < n_pop S by omega) hj).mpr (by omega)
    omega
  · cases c : (r_rest S been).testBit (r_hs S j)
    · rfl
    · rw [(r_rest_hs hS h1 hj).mp c] at hbit; cases hbit
  · cases c : (r_rest S been).testBit (r_hs S 0)
    · rfl
    · have := ((r_rest_bit hS).mp c).2.1
      rw [(r_hs_B (show 0 < n_pop S by omega)).2.2] at this; omega
  · intro x hx
    exact h.2.2.2.2.2 x ((r_rest_bit hS).mp hx).1
/-- by a next place: what bestBy tells -/
noncomputable def m_bj (A B L lw what S been idx : Nat) (i f : Bool) (j : Nat) : Int := m_bb A B L lw what (r_hs S 0) (n_pop (r_rest S been) - 1) (r_hs S idx) i (r_rest S been) f (r_hs S j)
theorem m_bj_b {j : Nat} (h : m_Cb m L R A B lw S) (hw : what ≤ 2) (hb : been < 2 ^ (n_pop S - 1)) (hi : idx < n_pop S) (h1 : 1 ≤ j) (hj : j < n_pop S) (hii : 1 ≤ idx) (hbi : been.testBit (idx - 1) = true) : -1 ≤ m_bj A B L lw what S been idx i f j ∧ m_bj A B L lw what S been idx i f j < 167772160000 := by
  have hS := h.1.2.2.2.2.2.1
  have hk := h.1.2.2.2.2.2.2
  have hs0 := m_Cb_B h (show 0 < n_pop S by omega)
  have hbit0 : (r_rest S been).testBit (r_hs S 0) = false := by
    cases c : (r_rest S been).testBit (r_hs S 0)
    · rfl
    · have := ((r_rest_bit hS).mp c).2.1
      rw [(r_hs_B (show 0 < n_pop S by omega)).2.2] at this; omega
  have hbiti : (r_rest S been).testBit (r_hs S idx) = false := by
    cases c : (r_rest S been).testBit (r_hs S idx)
    · rfl
    · rw [(r_rest_hs hS hii hi).mp c] at hbi; cases hbi
  have hin : ∀ x, (r_rest S been).testBit x = true → x < L + R := fun x hx => h.2.2.2.2.2 x ((r_rest_bit hS).mp hx).1
  have hne : ∀ k, 1 ≤ k → k < n_pop S → r_hs S k ≠ r_hs S 0 := fun k q1 q2 e => by
    have a := (r_hs_lt (S := S) (show 0 < n_pop S by omega) q2).mpr (by omega)
    omega
  unfold m_bj m_bb
  by_cases c : (r_rest S been).testBit (r_hs S j) = true ∧ r_may lw i (r_x L (r_hs S idx) (r_hs S j)) = true
  · rw [if_pos c]
    have hpr := n_pop_rm (r_rest_lt S been) c.1
    have hpl := n_pop_le (r_rest_lt S been)
    have ok2 : (w_rm (r_rest S been) (r_hs S j)).testBit (r_hs S j) = false ∧ (w_rm (r_rest S been) (r_hs S j)).testBit (r_hs S 0) = false ∧ ∀ x, (w_rm (r_rest S been) (r_hs S j)).testBit x = true → x < L + R := ⟨by rw [w_rm_bit]; simp, by rw [w_rm_bit, hbit0]; rfl, fun x hx => hin x (by rw [w_rm_bit, Bool.and_eq_true] at hx; exact hx.1)⟩
    have a := m_bv_rf (lw := lw) (what := what) h.2.2.2.2.1 hw hs0 (n_pop (r_rest S been) - 1) (r_hs S j) (r_x L (r_hs S idx) (r_hs S j)) (w_rm (r_rest S been) (r_hs S j)) f (by omega) (m_Cb_B h hj) (hne j h1 hj) ok2.1 ok2.2.1 ok2.2.2
    refine m_rf_b h.2.2.2.2.1 (fun E g => ?_) (m_sp_rf (a := r_hs S idx) (b := r_hs S j) a)
    obtain ⟨E', g1, rfl⟩ := g
    refine m_h_E (n := n_pop (r_rest S been) - 1 + 1) (i := i) (f := f) (rest := r_rest S been) hs0 (by omega) (m_Cb_B h hi) (hne idx hii hi) hbiti hbit0 hin ⟨r_hs S j, E', c.1, c.2, g1, rfl⟩
  · rw [if_neg c]; omega
theorem t_252 {j : Nat} (h : m_Cb m L R A B lw S) (hw : what ≤ 2) (hb : been < 2 ^ (n_pop S - 1)) (hi : idx < n_pop S) (h1 : 1 ≤ j) (hj : j < n_pop S) (hbs : m_bs m L A B lw what S (been + 1)) : y_V sp ph (d + 4) 252 [y_bo 11 0 49, y_bi (been : Int), y_bi (idx : Int), y_bi (n_b i), y_bi (n_b f), y_bi (j : Int)] m = y_rL (m_bj A B L lw what S been idx i f j) m := by
  have h' := h
  obtain ⟨⟨g1, g2, g3, g4, ⟨g5, g6⟩, g7, g8⟩, x2, x3, x4, x5, x6⟩ := h'
  obtain ⟨b1, b2, b3, b4, b5, b6, _⟩ := x5
  have hp := n_pop_le g7
  have hpw := r_pw g7
  have hh1 := (r_hs_B hi).1
  have hh2 := (r_hs_B hj).1
  have ei : y_mI m 94 (idx : Int).toNat = (r_hs S idx : Int) := g6 idx hi
  have ei' := g6 idx hi
  have ej : y_mI m 94 (j : Int).toNat = (r_hs S j : Int) := g6 j hj
  have ej' := g6 j hj
  have e1 : (j : Int) - 1 = ((j - 1 : Nat) : Int) := by omega
  have hbit := r_rest_hs (been := been) g7 h1 hj
  have hi12 : idx < 12 := by omega
  have hj12 : j < 12 := by omega
  unfold m_bj m_bb
  by_cases q : been.testBit (j - 1) = true
  · rw [if_neg (fun e => by
      have := hbit.mp e.1
      rw [q] at this; cases this)]
    simp (disch := omega) only [y_C_252, y_E_252_0, y_E_252_41, z_w_id, if_pos, if_neg, e_g, e_bI, e_bV, e_bL, e_II, e_II', e_IJ, e_JI, e_JJ, e_JJ', reduceIte, not_true_eq_false, not_false_eq_true, true_or, or_true, true_and, and_true, e_nb0, e_gT, ei, ej, ei', ej', t_211 g1 g3, e1, n_bit, q]
  · have q' : been.testBit (j - 1) = false := by
      cases r : been.testBit (j - 1)
      · rfl
      · exact absurd r q
    have hr := hbit.mpr q'
    by_cases c : r_may lw i (r_x L (r_hs S idx) (r_hs S j)) = true
    · obtain ⟨o1, o2, o3⟩ := n_or_bit (by omega) (by omega) h1 q'
      have hp2 := n_pop_rm (r_rest_lt S been) hr
      have eo := r_rest_or (been := been) g7 h1 hj
      have olt : been ||| 1 <<< (j - 1) < 2 ^ (n_pop S - 1) := Nat.or_lt_two_pow hb (by rw [Nat.one_shiftLeft]; exact Nat.pow_lt_pow_right (by decide) (by omega))
      have cell := hbs (been ||| 1 <<< (j - 1)) (by omega) olt j h1 hj o3 (r_x L (r_hs S idx) (r_hs S j)) f
      have cellb := m_bw_b (i := r_x L (r_hs S idx) (r_hs S j)) (f := f) h hw olt h1 hj o3
      rw [← cell] at cellb
      unfold m_bw at cell
      rw [eo, show n_pop (w_rm (r_rest S been) (r_hs S j)) = n_pop (r_rest S been) - 1 by omega] at cell
      rw [if_pos ⟨hr, c⟩, ← cell]
      have eor : z_ior (been : Int) (z_ishl 1 ((j - 1 : Nat) : Int)) = ((been ||| 1 <<< (j - 1) : Nat) : Int) := by
        have hs1 : 1 <<< (j - 1) < 2 ^ 11 := by rw [Nat.one_shiftLeft]; exact Nat.pow_lt_pow_right (by decide) (by omega)
        rw [show (1 : Int) = ((1 : Nat) : Int) from rfl, n_ishl (by omega) (by omega), n_ior (by omega) (by omega)]
      have wlt := r_wi_lt (i := r_x L (r_hs S idx) (r_hs S j)) (f := f) o1 (show j < 12 by omega)
      have ew : ((((been ||| 1 <<< (j - 1) : Nat) : Int) * (12 : Int) + (j : Int)) * (4 : Int) + (2 : Int) * n_b (r_x L (r_hs S idx) (r_hs S j)) + n_b f) = (r_wi (been ||| 1 <<< (j - 1)) j (r_x L (r_hs S idx) (r_hs S j)) f : Int) := by
        unfold r_wi
        rw [n_b_nat, n_b_nat]; omega
      have t236 : y_V sp ph (d + 3) 236 [y_bo 11 0 49, y_bi ((been ||| 1 <<< (j - 1) : Nat) : Int), y_bi (j : Int), y_bi (n_b (r_x L (r_hs S idx) (r_hs S j))), y_bi (n_b f)] m = y_rI (r_wi (been ||| 1 <<< (j - 1)) j (r_x L (r_hs S idx) (r_hs S j)) f : Int) m := by
        rw [t_236 (d := d + 2), ew]
      have t212 := t_212 (sp := sp) (ph := ph) (d := d) (m := m) (R := R) g1 x2 x3 b1 b2 (m_Cb_B h hi) (m_Cb_B h hj) b4 b6
      have key : ∀ (w : Nat) (r : y_Rs), w < 98304 → y_g (0 ≤ (w : Int) ∧ (w : Int) < (98304 : Int)) r = r := fun w r h => e_g ⟨by omega, by omega⟩
      have k12 : ∀ (w : Nat) (r : y_Rs), w < 12 → y_g (0 ≤ (w : Int) ∧ (w : Int) < (12 : Int)) r = r := fun w r h => e_g ⟨by omega, by omega⟩
      generalize r_wi (been ||| 1 <<< (j - 1)) j (r_x L (r_hs S idx) (r_hs S j)) f = wi at wlt t236 cellb ⊢
      have ebr : (z_w (z_lcmp (y_mJ m 96 wi) (-1)) = 0) = (y_mJ m 96 wi = -1) := n_lc_eq (by omega) (by omega) (by omega) (by omega)
      simp (disch := first | assumption | omega) only [y_C_252, y_E_252_0, z_w_id, if_pos, if_neg, e_bI, reduceIte, not_true_eq_false, not_false_eq_true, e_nb0, k12, ei, ej, ei', ej', Bool.false_eq_true, Bool.true_eq_false, t_211 g1 g3, e1, n_bit, q', t_227 g2 g4, c, y_E_252_45, eor]
      rw [t236, e_bI, key _ _ wlt, Int.toNat_natCast]
      unfold m_sp
      by_cases z : y_mJ m 96 wi = -1
      · rw [if_neg (by rw [ebr]; exact fun r => r z), if_pos z, y_E_252_105]
      · rw [if_pos (by rw [ebr]; exact z), if_neg z]
        simp (disch := first | assumption | omega) only [y_E_252_85, k12, ei, ej, ei', ej', t212, e_bL, y_E_252_105]
    · rw [if_neg fun e => c e.2]
      simp (disch := omega) only [y_C_252, y_E_252_0, y_E_252_41, z_w_id, if_pos, if_neg, e_g, e_bI, e_bV, e_bL, e_II, e_II', e_IJ, e_JI, e_JJ, e_JJ', reduceIte, not_true_eq_false, not_false_eq_true, true_or, or_true, true_and, and_true, e_nb0, e_gT, ei, ej, ei', ej', Bool.false_eq_true, t_211 g1 g3, e1, n_bit, q', t_227 g2 g4, e_nb0, c]
end Best
