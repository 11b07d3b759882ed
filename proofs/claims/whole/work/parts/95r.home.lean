/-! ===== the reference's shortest rounds of all sets ===== -/
def m_Ch (m : y_m) (L R A B lw t : Nat) : Prop := y_mI m 52 0 = L ∧ y_mI m 52 1 = R ∧ y_mI m 52 2 = A ∧ y_mI m 52 3 = B ∧ y_mI m 52 4 = lw ∧ y_mI m 52 6 = t ∧ lw ≤ 2 ∧ t < 4096 ∧ q_RR m A B ∧ m_B L R A B
theorem m_Ch_F {P : Nat → Nat → Prop} {m m' : y_m} {L R A B lw t : Nat} (h : m_Ch m L R A B lw t) (hF : q_F P m m') (hP : ∀ a k, P a k → ¬ q_wr a ∧ a ≠ 52) : m_Ch m' L R A B lw t := by
  obtain ⟨h0, h1, h2, h3, h4, h5, h6, h7, h8, h9⟩ := h
  have e : ∀ k, y_mI m' 52 k = y_mI m 52 k := fun k => q_F_I hF 52 k (fun q => (hP _ _ q).2 rfl)
  exact ⟨by rw [e]; exact h0, by rw [e]; exact h1, by rw [e]; exact h2, by rw [e]; exact h3, by rw [e]; exact h4, by rw [e]; exact h5, h6, h7, q_RR_F h8 hF (fun a k q => ⟨(hP a k q).1, Or.inl (hP a k q).2⟩), h9⟩
section Home
variable {sp : Nat → Nat} {ph : Bool} {d : Nat} {m : y_m} {L R A B lw t S T W hole : Nat} {i f : Bool}
theorem l_257 (hS : S < 4096) (h0 : 0 < S) : ∀ (n j : Nat), j + n = n_low S → y_R sp ph d 257 2 [some (y_bi (S : Int)), some (y_bi (j : Int))] [] m = y_rI (n_low S : Int) m := by
  have lo := w_low hS h0
  intro n
  induction n with
  | zero =>
    intro j hj
    have : j = n_low S := by omega
    subst this
    rw [y_E_257_2, n_bit (by omega) (by omega), if_pos lo.2.2.1, if_pos (by decide), y_E_257_16]
  | succ n ih =>
    intro j hj
    rw [y_E_257_2, n_bit (by omega) (by omega), lo.2.2.2 j (by omega) (by omega), if_neg (by decide), show (j : Int) + 1 = ((j + 1 : Nat) : Int) by omega]
    exact ih (j + 1) (by omega)
theorem t_257 (hS : S < 4096) (h0 : 0 < S) : y_V sp ph (d + 1) 257 [y_bi (S : Int)] m = y_rI (n_low S : Int) m := by
  rw [y_C_257, y_E_257_0]
  exact l_257 hS h0 (n_low S) 0 (by omega)
theorem t_258 : y_V sp ph (d + 1) 258 [y_bi (S : Int), y_bi (hole : Int), y_bi (n_b i), y_bi (n_b f)] m = y_rI (m_ix S hole i f : Int) m := by
  have e : (m_ix S hole i f : Int) = ((S : Int) * 12 + (hole : Int)) * 4 + n_b i * 2 + n_b f := by
    rw [m_ix_eq]
    cases i <;> cases f <;> simp [n_b] <;> omega
  rw [e, y_C_258, y_E_258_0]
  cases i <;> cases f
  · rw [if_pos (by decide), y_E_258_16, y_E_258_17, if_pos (by decide), y_E_258_26, y_E_258_27]; rfl
  · rw [if_pos (by decide), y_E_258_16, y_E_258_17, if_neg (by decide), y_E_258_27]; rfl
  · rw [if_neg (by decide), y_E_258_17, if_pos (by decide), y_E_258_26, y_E_258_27]; rfl
  · rw [if_neg (by decide), y_E_258_17, if_neg (by decide), y_E_258_27]; rfl
theorem m_ix_lt (hS : S < 4096) (hh : hole < 12) : m_ix S hole i f < 196608 := by
  rw [m_ix_eq]; cases i <;> cases f <;> simp <;> omega
theorem m_ix_ne {S' hole' : Nat} {i' f' : Bool} (h1 : hole < 12) (h2 : hole' < 12) (h : ¬ (S = S' ∧ hole = hole' ∧ i = i' ∧ f = f')) : m_ix S hole i f ≠ m_ix S' hole' i' f' := by
  rw [m_ix_eq, m_ix_eq]
  intro e
  refine h ?_
  cases i <;> cases f <;> cases i' <;> cases f' <;> simp at e ⊢ <;> omega
theorem t_259 {to : Nat} {v : Int} (hR : q_RR m A B) (hto : to < 196608) (v1 : 0 ≤ v) (v2 : v < 167772160000) (c1 : -1 ≤ y_mJ m 99 to) (c2 : y_mJ m 99 to < 167772160000) : ∃ m', y_V sp ph (d + 5) 259 [y_bo 11 0 49, y_bi (to : Int), y_bl v] m = y_rV m' ∧ q_F (fun a k => a = 92 ∨ a = 93 ∨ (a = 99 ∧ k = to)) m m' ∧ y_mJ m' 99 to = if m_tk A B 0 v (y_mJ m 99 to) then v else y_mJ m 99 to := by
  have key : ∀ (w : Nat) (r : y_Rs), w < 196608 → y_g (0 ≤ (w : Int) ∧ (w : Int) < (196608 : Int)) r = r := fun w r h => e_g ⟨by omega, by omega⟩
  have lc : (z_w (z_lcmp (y_mJ m 99 to) (-1)) = 0) = (y_mJ m 99 to = -1) := n_lc_eq (by omega) (by omega) (by omega) (by omega)
  rw [y_C_259, y_E_259_0, key _ _ hto, key _ _ hto, Int.toNat_natCast]
  rcases t_tkb (sp := sp) (ph := ph) (d := d) (m := m) (what := 0) hR (by omega) (show -1 ≤ v by omega) v2 c1 c2 with ⟨q, _⟩ | ⟨q1, q2, q3⟩ | ⟨q1, q2, m1, q3, q4⟩
  · omega
  · refine ⟨y_sJ m 99 to v, ?_, q_F_sJ (Or.inr (Or.inr ⟨rfl, rfl⟩)), by rw [q3, e_JJ]; rfl⟩
    rw [if_pos (by rw [lc]; exact q2), y_E_259_28, key _ _ hto, Int.toNat_natCast, y_E_259_35]
  · have q3' : y_V sp ph (d + 4) 219 [y_bo 11 0 49, y_bl v, y_bl (y_mJ m 99 to), y_bi 0] m = _ := q3
    rw [if_neg (by rw [lc]; exact q2), q3', e_bI]
    have F1 : q_F (fun a k => a = 92 ∨ a = 93 ∨ (a = 99 ∧ k = to)) m m1 := q_F_mono q4 (fun a k q => by unfold m_9 at q; omega)
    cases k : m_tk A B 0 v (y_mJ m 99 to)
    · refine ⟨m1, ?_, F1, ?_⟩
      · rw [if_pos (by decide), y_E_259_35]
      · rw [q_F_J q4 99 to (by unfold m_9; omega)]; rfl
    · refine ⟨y_sJ m1 99 to v, ?_, q_F_trans F1 (q_F_sJ (Or.inr (Or.inr ⟨rfl, rfl⟩))), by rw [e_JJ]; rfl⟩
      rw [if_neg (by decide), y_E_259_28, key _ _ hto, Int.toNat_natCast, y_E_259_35]
/-- the ways to a hole that were pushed on -/
def m_pp (lw L T c U hole : Nat) (o h : Bool) (E : List (Nat × Nat)) : Prop := (w_rm U hole < T ∧ m_c lw (r_x L) (n_low U) (n_pop U - 2) hole (m_rs U hole) o h E) ∨ (w_rm U hole = T ∧ 2 ≤ n_pop T ∧ ∃ last i E', last * 4 + 2 * i.toNat + h.toNat < c ∧ (m_rs U hole).testBit last = true ∧ r_x L last hole = o ∧ r_may lw i o = true ∧ m_c lw (r_x L) (n_low U) (n_pop T - 2) last (w_rm (m_rs U hole) last) i h E' ∧ E = w_e last hole :: E')
def m_PI (m : y_m) (L A B lw W T : Nat) (cc : Nat → Nat) : Prop := ∀ U hole, (∀ j, U.testBit j = true → W.testBit j = true) → U.testBit hole = true → hole ≠ n_low U → ∀ o h, m_rf 0 L A B (y_mJ m 99 (m_ix U hole o h)) (m_pp lw L T (cc hole) U hole o h)
theorem m_c_E {f0 : Nat} {o h : Bool} {E : List (Nat × Nat)} (hT : T < 4096) (hin : ∀ j, T.testBit j = true → j < L + R) (hb : T.testBit hole = true) (hl : hole ≠ n_low T) (hf : f0 ≤ 12) (g : m_c lw (r_x L) (n_low T) f0 hole (m_rs T hole) o h E) : m_E L R E := by
  have lo := w_low hT (m_nz hb)
  obtain ⟨a1, a2, a3⟩ := m_c_ok (r_x_comm L) (hin _ lo.2.2.1) (hin _ hb) hl (by rw [m_rs_bit]; simp) (by rw [m_rs_bit]; simp) (m_rs_in hin) g
  exact ⟨⟨a1, a2⟩, by omega⟩
theorem m_pp_E {c : Nat} {o h : Bool} {E : List (Nat × Nat)} (hS : S < 4096) (hin : ∀ j, S.testBit j = true → j < L + R) (hb : S.testBit hole = true) (hl : hole ≠ n_low S) (g : m_pp lw L T c S hole o h E) : m_E L R E := by
  have hp := n_pop_le hS
  have hpr := n_pop_rm hS hb
  rcases g with ⟨_, g⟩ | ⟨gT, g2, last, i, E', g3, g4, g5, g6, g7, rfl⟩
  · exact m_c_E hS hin hb hl (by omega) g
  · have : m_c lw (r_x L) (n_low S) (n_pop T - 2 + 1) hole (m_rs S hole) o h (w_e last hole :: E') := ⟨last, i, E', g4, g5, g6, g7, rfl⟩
    rw [← gT] at this
    exact m_c_E hS hin hb hl (by omega) this
end Home
