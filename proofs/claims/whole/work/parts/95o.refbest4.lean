/-! ===== the reference finds the best round: first picks ===== -/
def m_eu (s : Nat) : Nat → List Nat → List (Nat × Nat)
  | last, [] => [w_e last s]
  | last, h :: u => w_e last h :: m_eu s h u
section Pick
variable {A B L R lw what s : Nat}
theorem m_S_code {E F : List (Nat × Nat)} (hb : m_B L R A B) (hE : m_E L R E) (hF : m_E L R F) (h : w_code L A B E = w_code L A B F) : m_S what L A B E = m_S what L A B F := by
  obtain ⟨h1, h2, h3, h4, h5, h6, h7, h8⟩ := hb
  have c1 := w_cmp (A := A) (B := B) false h1 h2 h4 h6 hE.1 hF.1 hE.2 hF.2
  have c2 := w_cmp (A := A) (B := B) true h1 h2 h4 h6 hE.1 hF.1 hE.2 hF.2
  have z : ∀ pull c, q_fx pull A B (q_df pull c c) = 0 := by
    intro pull c
    rw [q_fx_congr (E := fun _ => 0) (fun k _ => by unfold q_df; omega)]
    unfold q_fx; simp
  rw [h, z] at c1 c2
  rw [m_S_eq, m_S_eq]
  repeat' split
  all_goals omega
/-- what a pick has: the first of the best -/
def m_gd (what L A B : Nat) (g : Nat → Int) (P : Nat → List (Nat × Nat) → Prop) (j0 j : Nat) (a : Nat × Int) : Prop := m_rf what L A B a.2 (fun E => ∃ h, j0 ≤ h ∧ h < j ∧ P h E) ∧ (a.2 ≠ -1 → j0 ≤ a.1 ∧ a.1 < j ∧ a.2 = g a.1 ∧ ∀ h, j0 ≤ h → h < a.1 → ∀ E F, P h E → P a.1 F → a.2 = (w_code L A B F : Int) → m_S what L A B F + 900 < m_S what L A B E)
theorem m_fk_gd {g : Nat → Int} {P : Nat → List (Nat × Nat) → Prop} {j0 N : Nat} (hb : m_B L R A B) (hw : what ≤ 2) (hP : ∀ h E, P h E → m_E L R E) (hg : ∀ h, j0 ≤ h → h < N → m_rf what L A B (g h) (P h)) : ∀ (n j : Nat) (a : Nat × Int), j + n = N → j0 ≤ j → m_gd what L A B g P j0 j a → m_gd what L A B g P j0 N (m_fk A B what g n j a) := by
  intro n
  induction n with
  | zero => intro j a hj _ h; rw [show N = j by omega]; exact h
  | succ n ih =>
    intro j a hj hj0 h
    rw [m_fk]
    refine ih (j + 1) _ (by omega) (by omega) ?_
    have hgj := hg j hj0 (by omega)
    have c := m_rf_or hb hw (fun E q => by obtain ⟨h, _, _, q⟩ := q; exact hP h E q) (hP j) h.1 hgj
    have cc : m_rf what L A B (if m_tk A B what (g j) a.2 then g j else a.2) (fun E => ∃ h, j0 ≤ h ∧ h < j + 1 ∧ P h E) := by
      refine m_rf_congr c (fun E => ?_)
      constructor
      · rintro (⟨h, h0, h1, h2⟩ | h2)
        · exact ⟨h, h0, by omega, h2⟩
        · exact ⟨j, hj0, by omega, h2⟩
      · rintro ⟨h, h0, h1, h2⟩
        by_cases q : h = j
        · subst q; exact Or.inr h2
        · exact Or.inl ⟨h, h0, by omega, h2⟩
    cases k : m_tk A B what (g j) a.2
    · rw [k] at cc
      simp only [Bool.false_eq_true, reduceIte] at cc ⊢
      refine ⟨cc, fun q => ?_⟩
      obtain ⟨q1, q2, q3, q4⟩ := h.2 q
      exact ⟨q1, by omega, q3, q4⟩
    · rw [k] at cc
      simp only [reduceIte] at cc ⊢
      refine ⟨cc, fun q => ⟨hj0, by show j < j + 1; omega, rfl, ?_⟩⟩
      intro h' h0 h1 E F hE hF hcode
      have h1' : h' < j := h1
      have hFj : P j F := hF
      have hcode' : g j = (w_code L A B F : Int) := hcode
      unfold m_tk at k
      rw [Bool.and_eq_true, Bool.or_eq_true] at k
      rcases h.1 with ⟨r1, r2⟩ | ⟨G, ⟨h2, r0, r1, r2⟩, r3, r4⟩
      · exact absurd ⟨h', h0, h1', hE⟩ (r2 E)
      · have kb : q_bt A B what (g j).toNat a.2.toNat = true := by
          rcases k.2 with z | z
          · have := of_decide_eq_true z; omega
          · exact z
        rw [hcode', r3, Int.toNat_natCast, Int.toNat_natCast, m_better hb (hP j F hFj) (hP h2 G r2) hw] at kb
        have k1 := of_decide_eq_true kb
        have k2 := m_gap (what := what) hb (hP j F hFj) (hP h2 G r2)
        have k3 := r4 E ⟨h', h0, h1', hE⟩
        omega
theorem m_gd_0 {g : Nat → Int} {P : Nat → List (Nat × Nat) → Prop} {j : Nat} : m_gd what L A B g P j j (0, -1) := ⟨m_rf_none (fun E q => by obtain ⟨h, q1, q2, _⟩ := q; omega), fun q => absurd rfl q⟩
end Pick
section Best
variable {sp : Nat → Nat} {ph : Bool} {d : Nat} {m : y_m} {L R A B lw what S been idx : Nat} {i f : Bool}
/-- by a second place -/
noncomputable def m_sj (A B L lw what S j : Nat) : Int := m_sp (m_bw A B L lw what S (1 <<< (j - 1)) j (r_x L (r_hs S 0) (r_hs S j)) (r_x L (r_hs S 0) (r_hs S j))) (r_code L A B (r_hs S 0) (r_hs S j))
theorem r_sh {j : Nat} (hS : S < 4096) (h1 : 1 ≤ j) (hj : j < n_pop S) : 1 ≤ 1 <<< (j - 1) ∧ 1 <<< (j - 1) < 2 ^ (n_pop S - 1) ∧ (1 <<< (j - 1)).testBit (j - 1) = true ∧ r_rest S (1 <<< (j - 1)) = w_rm (r_rest S 0) (r_hs S j) ∧ (r_rest S 0).testBit (r_hs S j) = true ∧ z_ishl 1 ((j - 1 : Nat) : Int) = ((1 <<< (j - 1) : Nat) : Int) := by
  have hp := n_pop_le hS
  have hs1 : 1 <<< (j - 1) < 2 ^ 11 := by rw [Nat.one_shiftLeft]; exact Nat.pow_lt_pow_right (by decide) (by omega)
  have eb : 0 ||| 1 <<< (j - 1) = 1 <<< (j - 1) := Nat.zero_or _
  have eo := r_rest_or (been := 0) hS h1 hj
  rw [eb] at eo
  refine ⟨?_, ?_, ?_, eo, (r_rest_hs (been := 0) hS h1 hj).mpr (Nat.zero_testBit _), ?_⟩
  · rw [Nat.one_shiftLeft]; exact Nat.pow_pos (by decide)
  · rw [Nat.one_shiftLeft]; exact Nat.pow_lt_pow_right (by decide) (by omega)
  · rw [Nat.one_shiftLeft, Nat.testBit_two_pow]; exact decide_eq_true rfl
  · rw [show (1 : Int) = ((1 : Nat) : Int) from rfl, n_ishl (by omega) (by omega)]
theorem t_253 {j : Nat} (h : m_Cb m L R A B lw S) (hw : what ≤ 2) (h1 : 1 ≤ j) (hj : j < n_pop S) (hbs : m_bs m L A B lw what S 1) : y_V sp ph (d + 4) 253 [y_bo 11 0 49, y_bi (j : Int)] m = y_rL (m_sj A B L lw what S j) m := by
  have h' := h
  obtain ⟨⟨g1, g2, g3, g4, ⟨g5, g6⟩, g7, g8⟩, x2, x3, x4, x5, x6⟩ := h'
  obtain ⟨b1, b2, b3, b4, b5, b6, _⟩ := x5
  have hp := n_pop_le g7
  have hpw := r_pw g7
  have hh2 := (r_hs_B hj).1
  have h0 := (r_hs_B (S := S) (show 0 < n_pop S by omega)).1
  have ej : y_mI m 94 (j : Int).toNat = (r_hs S j : Int) := g6 j hj
  have ej' := g6 j hj
  have e0 := g6 0 (by omega)
  have e1 : (j : Int) - 1 = ((j - 1 : Nat) : Int) := by omega
  obtain ⟨o1, o2, o3, o4, o5, o6⟩ := r_sh g7 h1 hj
  have cell := hbs (1 <<< (j - 1)) o1 o2 j h1 hj o3 (r_x L (r_hs S 0) (r_hs S j)) (r_x L (r_hs S 0) (r_hs S j))
  have cellb := m_bw_b (i := r_x L (r_hs S 0) (r_hs S j)) (f := r_x L (r_hs S 0) (r_hs S j)) h hw o2 h1 hj o3
  unfold m_sj
  rw [← cell] at cellb ⊢
  have wlt := r_wi_lt (i := r_x L (r_hs S 0) (r_hs S j)) (f := r_x L (r_hs S 0) (r_hs S j)) (show 1 <<< (j - 1) < 2048 by omega) (show j < 12 by omega)
  have ew : ((((1 <<< (j - 1) : Nat) : Int) * (12 : Int) + (j : Int)) * (4 : Int) + (2 : Int) * n_b (r_x L (r_hs S 0) (r_hs S j)) + n_b (r_x L (r_hs S 0) (r_hs S j))) = (r_wi (1 <<< (j - 1)) j (r_x L (r_hs S 0) (r_hs S j)) (r_x L (r_hs S 0) (r_hs S j)) : Int) := by
    unfold r_wi
    rw [n_b_nat]; omega
  have t236 : y_V sp ph (d + 3) 236 [y_bo 11 0 49, y_bi ((1 <<< (j - 1) : Nat) : Int), y_bi (j : Int), y_bi (n_b (r_x L (r_hs S 0) (r_hs S j))), y_bi (n_b (r_x L (r_hs S 0) (r_hs S j)))] m = y_rI (r_wi (1 <<< (j - 1)) j (r_x L (r_hs S 0) (r_hs S j)) (r_x L (r_hs S 0) (r_hs S j)) : Int) m := by
    rw [t_236 (d := d + 2), ew]
  have t212 := t_212 (sp := sp) (ph := ph) (d := d) (m := m) (R := R) g1 x2 x3 b1 b2 (m_Cb_B h (show 0 < n_pop S by omega)) (m_Cb_B h hj) b4 b6
  have key : ∀ (w : Nat) (r : y_Rs), w < 98304 → y_g (0 ≤ (w : Int) ∧ (w : Int) < (98304 : Int)) r = r := fun w r h => e_g ⟨by omega, by omega⟩
  have k12 : ∀ (w : Nat) (r : y_Rs), w < 12 → y_g (0 ≤ (w : Int) ∧ (w : Int) < (12 : Int)) r = r := fun w r h => e_g ⟨by omega, by omega⟩
  have hj12 : j < 12 := by omega
  generalize r_wi (1 <<< (j - 1)) j (r_x L (r_hs S 0) (r_hs S j)) (r_x L (r_hs S 0) (r_hs S j)) = wi at wlt t236 cellb ⊢
  have ebr : (z_w (z_lcmp (y_mJ m 96 wi) (-1)) = 0) = (y_mJ m 96 wi = -1) := n_lc_eq (by omega) (by omega) (by omega) (by omega)
  simp (disch := first | assumption | omega) only [y_C_253, y_E_253_0, k12, ej, ej', e0, t_211 g1 g3, e_bI, e1, o6]
  rw [t236, e_bI, key _ _ wlt, Int.toNat_natCast]
  unfold m_sp
  by_cases z : y_mJ m 96 wi = -1
  · rw [if_neg (by rw [ebr]; exact fun r => r z), if_pos z, y_E_253_67]
  · rw [if_pos (by rw [ebr]; exact z), if_neg z]
    simp (disch := first | assumption | omega) only [y_E_253_49, k12, ej, ej', e0, t212, e_bL, y_E_253_67]
/-- rounds by a second place, ways on by a next place -/
def m_Ps (lw L S j : Nat) (E : List (Nat × Nat)) : Prop := 1 ≤ j ∧ j < n_pop S ∧ ∃ E', m_h lw (r_x L) (r_hs S 0) (n_pop S - 2) (r_hs S j) (r_x L (r_hs S 0) (r_hs S j)) (w_rm (r_rest S 0) (r_hs S j)) (r_x L (r_hs S 0) (r_hs S j)) E' ∧ E = w_e (r_hs S 0) (r_hs S j) :: E'
def m_Pn (lw L S been idx : Nat) (i f : Bool) (j : Nat) (E : List (Nat × Nat)) : Prop := 1 ≤ j ∧ j < n_pop S ∧ (r_rest S been).testBit (r_hs S j) = true ∧ r_may lw i (r_x L (r_hs S idx) (r_hs S j)) = true ∧ ∃ E', m_h lw (r_x L) (r_hs S 0) (n_pop (r_rest S been) - 1) (r_hs S j) (r_x L (r_hs S idx) (r_hs S j)) (w_rm (r_rest S been) (r_hs S j)) f E' ∧ E = w_e (r_hs S idx) (r_hs S j) :: E'
def m_RX (lw L S : Nat) (E : List (Nat × Nat)) : Prop := m_rd lw (r_x L) (r_hs S 0) (n_pop S - 2) (r_rest S 0) E
theorem m_RX_ok {E : List (Nat × Nat)} (h : m_Cb m L R A B lw S) (h3 : 3 ≤ n_pop S) (g : m_RX lw L S E) : m_E L R E ∧ E.length = n_pop S := by
  have hS := h.1.2.2.2.2.2.1
  have hp := n_pop_le hS
  have hbit0 : (r_rest S 0).testBit (r_hs S 0) = false := by
    cases c : (r_rest S 0).testBit (r_hs S 0)
    · rfl
    · have := ((r_rest_bit hS).mp c).2.1
      rw [(r_hs_B (show 0 < n_pop S by omega)).2.2] at this; omega
  obtain ⟨a1, a2, a3⟩ := m_rd_ok (m_Cb_B h (show 0 < n_pop S by omega)) (by omega) hbit0 (fun x hx => h.2.2.2.2.2 x ((r_rest_bit hS).mp hx).1) g
  exact ⟨⟨⟨a1, a2⟩, by omega⟩, by omega⟩
theorem m_Ps_RX {j : Nat} {E : List (Nat × Nat)} (hS : S < 4096) (g : m_Ps lw L S j E) : m_RX lw L S E := by
  obtain ⟨h1, h2, E', h3, h4⟩ := g
  exact ⟨r_hs S j, E', (r_sh hS h1 h2).2.2.2.2.1, h3, h4⟩
theorem m_RX_Ps {E : List (Nat × Nat)} (hS : S < 4096) (hk : 0 < n_pop S) (g : m_RX lw L S E) : ∃ j, m_Ps lw L S j E := by
  obtain ⟨h, E', h1, h2, h3⟩ := g
  have hb := (r_rest_bit hS).mp h1
  have h12 : h < 12 := by
    rcases Nat.lt_or_ge h 12 with q | q
    · exact q
    · have := Nat.testBit_lt_two_pow (x := S) (i := h) (Nat.lt_of_lt_of_le hS (Nat.pow_le_pow_right (n := 2) (by decide) q))
      rw [this] at hb; exact absurd hb.1 (by decide)
  have hlt := r_ix_lt hb.1 h12
  rw [r_ix_12] at hlt
  have e := r_hs_ix hb.1 h12
  exact ⟨r_ix S h, hb.2.1, hlt, E', by rw [e]; exact h2, by rw [e]; exact h3⟩
theorem m_sj_rf {j : Nat} (h : m_Cb m L R A B lw S) (h3 : 3 ≤ n_pop S) (hw : what ≤ 2) (h1 : 1 ≤ j) (hj : j < n_pop S) : m_rf what L A B (m_sj A B L lw what S j) (m_Ps lw L S j) := by
  have hS := h.1.2.2.2.2.2.1
  obtain ⟨o1, o2, o3, o4, o5, o6⟩ := r_sh hS h1 hj
  have a := m_bw_rf (i := r_x L (r_hs S 0) (r_hs S j)) (f := r_x L (r_hs S 0) (r_hs S j)) h hw o2 h1 hj o3
  have hpr := n_pop_rm (r_rest_lt S 0) o5
  have hp0 : n_pop (r_rest S 0) + 1 = n_pop S := by
    rw [r_rest_0 hS (by omega)]
    refine n_pop_rm hS ?_
    rw [← r_hs_0 S]; exact (r_hs_B (show 0 < n_pop S by omega)).2.1
  rw [o4, show n_pop (w_rm (r_rest S 0) (r_hs S j)) = n_pop S - 2 by omega] at a
  refine m_rf_congr (m_sp_rf (a := r_hs S 0) (b := r_hs S j) a) (fun E => ?_)
  constructor
  · rintro ⟨E', q1, q2⟩; exact ⟨h1, hj, E', q1, q2⟩
  · rintro ⟨_, _, E', q1, q2⟩; exact ⟨E', q1, q2⟩
theorem m_bj_rf {j : Nat} (h : m_Cb m L R A B lw S) (hw : what ≤ 2) (hb : been < 2 ^ (n_pop S - 1)) (h1 : 1 ≤ j) (hj : j < n_pop S) : m_rf what L A B (m_bj A B L lw what S been idx i f j) (m_Pn lw L S been idx i f j) := by
  have hS := h.1.2.2.2.2.2.1
  have hk := h.1.2.2.2.2.2.2
  have hpw := r_pw hS
  unfold m_bj m_bb
  by_cases c : (r_rest S been).testBit (r_hs S j) = true ∧ r_may lw i (r_x L (r_hs S idx) (r_hs S j)) = true
  · rw [if_pos c]
    have q' := (r_rest_hs (been := been) hS h1 hj).mp c.1
    have hp := n_pop_le hS
    obtain ⟨o1, o2, o3⟩ := n_or_bit (show been < 2048 by omega) (show j < 12 by omega) h1 q'
    have eo := r_rest_or (been := been) hS h1 hj
    have olt : been ||| 1 <<< (j - 1) < 2 ^ (n_pop S - 1) := Nat.or_lt_two_pow hb (by rw [Nat.one_shiftLeft]; exact Nat.pow_lt_pow_right (by decide) (by omega))
    have hpr := n_pop_rm (r_rest_lt S been) c.1
    have a := m_bw_rf (i := r_x L (r_hs S idx) (r_hs S j)) (f := f) h hw olt h1 hj o3
    unfold m_bw at a
    rw [eo, show n_pop (w_rm (r_rest S been) (r_hs S j)) = n_pop (r_rest S been) - 1 by omega] at a
    refine m_rf_congr (m_sp_rf (a := r_hs S idx) (b := r_hs S j) a) (fun E => ?_)
    constructor
    · rintro ⟨E', q1, q2⟩; exact ⟨h1, hj, c.1, c.2, E', q1, q2⟩
    · rintro ⟨_, _, _, _, E', q1, q2⟩; exact ⟨E', q1, q2⟩
  · rw [if_neg c]
    exact m_rf_none fun E q => c ⟨q.2.2.1, q.2.2.2.1⟩
end Best
