theorem q_at_app {w : List Nat} {h : Nat} (hn : w ≠ []) : q_at (w ++ [h]) 0 = q_at w 0 := by
  have hl := List.length_pos_iff.mpr hn
  have a := q_at_nat (w := w ++ [h]) (i := 0) (by simp)
  have b := q_at_nat (w := w) (i := 0) hl
  rw [show (0 : Int) = ((0 : Nat) : Int) from rfl, a, b, List.getD_eq_getElem?_getD, List.getD_eq_getElem?_getD, List.getElem?_append_left hl]
section Trace
variable {sp : Nat → Nat} {ph : Bool} {d : Nat} {m : y_m} {b L R A B lw what T H hole a : Nat} {w : List Nat}
theorem l_120 {M : Int} (ha : a = 20) (hH : H < 4096) (hin : ∀ j, H.testBit j = true → j < L + R) (hM : -4000000000000000000 ≤ M ∧ M ≤ 4000000000000000000) : ∀ (f : Nat) (md : Option (Bool × Bool)) (last T : Nat) (pre : Int) (w : List Nat) (m : y_m), n_pop T = f + 1 → (∀ j, T.testBit j = true → H.testBit j = true) → m_Q m b L R A B lw → m_ct m what L R A B lw 144 → (∀ S, (∀ j, S.testBit j = true → H.testBit j = true) → m_ce m what L R A B lw S) → q_W m a w → w ≠ [] → q_at w 0 = n_low T → q_at w ((w.length : Int) - 1) = last → last < L + R → w.length + f ≤ 12 → -(288230376151800000 * (w.length : Int)) ≤ pre → pre ≤ 288230376151800000 * (w.length : Int) → (1 ≤ f → ∃ h, m_okh what L A B lw (m_kd lw L) (n_low T) M (f - 1) md last (w_rm T (n_low T)) pre h) → ∃ u m', y_R sp ph (d + 3) 120 47 [some (y_bo 2 0 8), some (y_bo 0 0 b), none, some (y_bo 8 0 a), none, none, some (y_bi (T : Int)), some (y_bi (m_aI md)), some (y_bi (m_bI md)), some (y_bl (M - pre)), none, some (y_bi (w.length : Int)), none, none] [] m = y_rI 1 m' ∧ q_F (fun y k => (y = a ∧ k = 1) ∨ y = a + 1) m m' ∧ m_gr what L A B lw (m_kd lw L) (n_low T) M f md last (w_rm T (n_low T)) pre u ∧ q_W m' a (w ++ u) := by
  intro f
  induction f with
  | zero =>
    intro md last T pre w m hp hT hQ hc he hW hn h0 h1 hla hlen hp1 hp2 hex
    have hT4 : T < 4096 := by have := m_sub_le hT; omega
    have s1 := s_1 (sp := sp) (ph := ph) (d := d + 2) (m := m) hT4
    refine ⟨[], m, ?_, q_F_refl, rfl, by rw [List.append_nil]; exact hW⟩
    rw [y_E_120_47]
    by_cases c : w.length = 12
    · simp (disch := omega) only [z_w_id, if_pos, y_E_120_158]
    · simp (disch := omega) only [z_w_id, if_neg, s1, e_bI, if_pos, y_E_120_158]
  | succ f ih =>
    intro md last T pre w m hp hT hQ hc he hW hn h0 h1 hla hlen hp1 hp2 hex
    have hT4 : T < 4096 := by have := m_sub_le hT; omega
    have hT0 : 0 < T := by
      rcases Nat.eq_zero_or_pos T with q | q
      · rw [q, show n_pop 0 = 0 from by decide] at hp; omega
      · exact q
    have lo := w_low hT4 hT0
    have hB := hQ.1
    obtain ⟨w1, w2, _⟩ := hB
    have hl1 := List.length_pos_iff.mpr hn
    have hinT : ∀ j, T.testBit j = true → j < L + R := fun j hj => hin j (hT j hj)
    have ef : n_pop T - 2 = f := by omega
    obtain ⟨h, g1, g2, g3⟩ := s_121 (sp := sp) (ph := ph) (d := d) (a := a) (w := w) (M := M) (pre := pre) (md := md) (last := last) hQ hT4 hT0 hinT hc (he T hT) hW hn h0 h1 hla hM (by omega) (by rw [ef]; exact hex (by omega))
    rw [ef] at g2 g3
    have hrest := g2.1
    have hrest' := hrest
    rw [w_rm_bit, Bool.and_eq_true] at hrest'
    have hne : h ≠ n_low T := of_decide_eq_true hrest'.2
    have hbT := hrest'.1
    have hhl := hinT h hbT
    have hpT := n_pop_rm hT4 hbT
    have hlow := n_low_rm hT4 hbT hne
    have hUlt := m_lt_rm hbT
    have hcb := m_w_b (what := what) (e := w_e last h) hQ.1 (by rcases w_e_fst last h with q | q <;> rcases w_e_snd last h with r | r <;> rw [q, r] <;> omega)
    have s1 := s_1 (sp := sp) (ph := ph) (d := d + 2) (m := m) hT4
    have s65 := s_65 (sp := sp) (ph := ph) (d := d + 1) (i := (w.length : Int) - 1) hW hn (by omega) (by omega)
    rw [h1] at s65
    have s113 := s_113 (sp := sp) (ph := ph) (d := d + 1) hQ hc hla hhl
    have s112 := s_112 (sp := sp) (ph := ph) (d := d + 1) hQ hc hla hhl
    have s63 := s_63k (sp := sp) (ph := ph) (d := d + 1) (h := h) hW rfl (by omega)
    have F : q_F (fun y k => (y = a ∧ k = 1) ∨ y = a + 1) m (y_sI (y_sI m (a + 1) w.length h) a 1 ((w.length : Int) + 1)) := q_F_trans (q_F_sI (Or.inr rfl)) (q_F_sI (Or.inl ⟨rfl, rfl⟩))
    have hQb := hQ.2.2.2.2.2.2.2
    obtain ⟨u, m2, c1, c2, c3, c4⟩ := ih (some (m_kd lw L last h, m_bg md (m_kd lw L last h))) h (w_rm T h) (pre + m_w what L A B (w_e last h)) (w ++ [h]) _ (by omega) (fun j hj => hT j (by rw [w_rm_bit, Bool.and_eq_true] at hj; exact hj.1)) (m_Q_F hQ F (fun y k q => by omega)) (m_ct_F hc F (fun y k q => by omega)) (fun S hS => m_ce_F (he S hS) F (fun k q => by omega)) (q_W_add hW rfl (by omega)) (by simp) (by rw [q_at_app hn, hlow]; exact h0) (by
      rw [List.length_append, List.length_singleton, show (((w.length + 1 : Nat) : Int) - 1) = (w.length : Int) by omega]
      exact q_at_last rfl) hhl (by rw [List.length_append, List.length_singleton]; omega) (by rw [List.length_append, List.length_singleton]; omega) (by rw [List.length_append, List.length_singleton]; omega) (fun hf => by
      obtain ⟨_, _, E, q3, q4⟩ := g2
      obtain ⟨f', rfl⟩ : ∃ f', f = f' + 1 := ⟨f - 1, by omega⟩
      obtain ⟨x, E', r1, r2, r3, rfl⟩ := q3
      refine ⟨x, ?_, r2, E', ?_, ?_⟩
      · rw [hlow, w_rm_comm T h]; exact r1
      · rw [hlow, w_rm_comm T h]; exact r3
      · rw [m_S_cons] at q4; omega)
    rw [hlow, w_rm_comm T h] at c3
    refine ⟨h :: u, m2, ?_, q_F_trans F c2, ⟨h, u, rfl, g2, g3, c3⟩, by rw [List.append_assoc] at c4; exact c4⟩
    rw [List.length_append, List.length_singleton] at c1
    have eT : z_iand (T : Int) (z_ixor (z_ishl 1 (h : Int)) (-1)) = (w_rm T h : Int) := by
      rw [n_one (by omega), n_not (by omega) (by have := Nat.pow_lt_pow_right (a := 2) (by decide) (show h < 12 by omega); omega)]; rfl
    have el : M - pre - m_w what L A B (w_e last h) = M - (pre + m_w what L A B (w_e last h)) := by omega
    have e1 : (w.length : Int) + 1 = ((w.length + 1 : Nat) : Int) := by omega
    have np : ∀ x : Bool, ¬ z_w (n_b x) = -1 := by intro x; cases x <;> decide
    rw [← c1, y_E_120_47]
    cases md with
    | none =>
      have g1' : y_V sp ph (d + 3) 121 [y_bo 2 0 8, y_bo 0 0 b, y_bi (T : Int), y_bo 8 0 a, y_bi (-1), y_bi (-1), y_bl (M - pre)] m = y_rI (h : Int) m := g1
      simp (disch := omega) only [z_w_id, if_neg, s1, e_bI, s65, m_aI, m_bI, g1', if_pos, y_E_120_97, s113, y_E_120_120, s112, e_bL, s63, e_bV, eT, el, e1, not_true_eq_false, reduceIte, m_bg]
    | some p =>
      have g1' : y_V sp ph (d + 3) 121 [y_bo 2 0 8, y_bo 0 0 b, y_bi (T : Int), y_bo 8 0 a, y_bi (n_b p.1), y_bi (n_b p.2), y_bl (M - pre)] m = y_rI (h : Int) m := g1
      simp (disch := omega) only [z_w_id, if_neg, s1, e_bI, s65, m_aI, m_bI, g1', if_pos, np, not_false_eq_true, y_E_120_97, s113, y_E_120_118, y_E_120_120, s112, e_bL, s63, e_bV, eT, el, e1, reduceIte, m_bg]
theorem s_120a (hQ : m_Q m b L R A B lw) (hT : T < 4096) (hp : 3 ≤ n_pop T) (hin : ∀ j, T.testBit j = true → j < L + R) (hc : m_ct m what L R A B lw 144) (he : m_ce m what L R A B lw T) (hno : ∀ E, ¬ m_RD lw L T E) : y_V sp ph (d + 4) 120 [y_bo 2 0 8, y_bo 0 0 b, y_bi (T : Int), y_bo 8 0 a] m = y_rI 0 m := by
  obtain ⟨v, v1, v2, v3⟩ := s_119 (sp := sp) (ph := ph) (d := d) hQ hT hp hin hc he
  have : v = m_F := (m_is_F v3).mpr (fun x hx => by obtain ⟨E, q, _⟩ := hx; exact hno E q)
  subst this
  have z : z_w (z_lcmp m_F 9223372036854775807) = 0 := by decide
  rw [y_C_120, y_E_120_0, v1, e_bL, z, if_neg (by decide)]
/-- the class's best round: greedy below the least number -/
def m_best (what L A B lw T : Nat) (M : Int) (u : List Nat) : Prop := m_gr what L A B lw (m_kd lw L) (n_low T) M (n_pop T - 1) none (n_low T) (w_rm T (n_low T)) 0 u
theorem s_120b (ha : a = 20) (hQ : m_Q m b L R A B lw) (hT : T < 4096) (hp : 3 ≤ n_pop T) (hin : ∀ j, T.testBit j = true → j < L + R) (hc : m_ct m what L R A B lw 144) (he : ∀ S, (∀ j, S.testBit j = true → T.testBit j = true) → m_ce m what L R A B lw S) {E0 : List (Nat × Nat)} (hyes : m_RD lw L T E0) : ∃ M u m', y_V sp ph (d + 4) 120 [y_bo 2 0 8, y_bo 0 0 b, y_bi (T : Int), y_bo 8 0 a] m = y_rI 1 m' ∧ q_F (fun y k => (y = a ∧ k = 1) ∨ y = a + 1) m m' ∧ m_is M (m_P what L A B (m_RD lw L T)) ∧ M ≠ m_F ∧ m_best what L A B lw T M u ∧ q_W m' a (n_low T :: u) := by
  have hT0 : 0 < T := by
    rcases Nat.eq_zero_or_pos T with q | q
    · rw [q, show n_pop 0 = 0 from by decide] at hp; omega
    · exact q
  have lo := w_low hT hT0
  have hB := hQ.1
  have hpl := n_pop_le hT
  obtain ⟨M, v1, v2, v3⟩ := s_119 (sp := sp) (ph := ph) (d := d) hQ hT hp hin hc (he T (fun j hj => hj))
  have hne : M ≠ m_F := fun q => (m_is_F v3).mp q _ ⟨E0, hyes, rfl⟩
  obtain ⟨EM, e1, e2⟩ := m_is_mem v3 hne
  have hok := m_RD_ok hT hin hp e1
  have hMb := m_S_b (what := what) hB (w_okb hok.1.1)
  rw [← e2, hok.2] at hMb
  have ebr : (z_w (z_lcmp M 9223372036854775807) = 0) = (M = m_F) := n_lc_eq (by omega) (by omega) (by omega) (by omega)
  have s62 := s_62 (sp := sp) (ph := ph) (d := d + 2) (m := m) (a := a)
  have hW0 : q_W (y_sI m a 1 0) a [] := ⟨by rw [e_II]; rfl, by simp, fun i hi => absurd hi (Nat.not_lt_zero _)⟩
  have s0 := s_0 (sp := sp) (ph := ph) (d := d + 2) (m := y_sI m a 1 0) hT hT0
  have s63 := s_63k (sp := sp) (ph := ph) (d := d + 1) (h := n_low T) hW0 rfl (by simp)
  have hW1 := q_W_add (h := n_low T) hW0 rfl (by simp)
  have F : q_F (fun y k => (y = a ∧ k = 1) ∨ y = a + 1) m (y_sI (y_sI (y_sI m a 1 0) (a + 1) ([] : List Nat).length (n_low T)) a 1 ((([] : List Nat).length : Int) + 1)) := q_F_trans (q_F_sI (Or.inl ⟨rfl, rfl⟩)) (q_F_trans (q_F_sI (Or.inr rfl)) (q_F_sI (Or.inl ⟨rfl, rfl⟩)))
  have hQb := hQ.2.2.2.2.2.2.2
  obtain ⟨u, m2, c1, c2, c3, c4⟩ := l_120 (sp := sp) (ph := ph) (d := d) (M := M) ha hT hin (by omega) (n_pop T - 1) none (n_low T) T 0 [n_low T] _ (by omega) (fun j hj => hj) (m_Q_F hQ F (fun y k q => by omega)) (m_ct_F hc F (fun y k q => by omega)) (fun S hS => m_ce_F (he S hS) F (fun k q => by omega)) hW1 (by simp) rfl rfl (hin _ lo.2.2.1) (by simp; omega) (by simp) (by simp) (fun _ => by
    obtain ⟨h, E', r1, r2, r3⟩ := e1
    refine ⟨h, r1, trivial, E', ?_, ?_⟩
    · rw [show n_pop T - 1 - 1 = n_pop T - 2 by omega]; exact r2
    · rw [e2, r3, m_S_cons]; omega)
  refine ⟨M, u, m2, ?_, q_F_trans F c2, v3, hne, c3, c4⟩
  have c1' : y_R sp ph (d + 3) 120 47 [some (y_bo 2 0 8), some (y_bo 0 0 b), none, some (y_bo 8 0 a), none, none, some (y_bi (T : Int)), some (y_bi (-1)), some (y_bi (-1)), some (y_bl (M - 0)), none, some (y_bi 1), none, none] [] _ = _ := c1
  rw [Int.sub_zero] at c1'
  rw [y_C_120, y_E_120_0, v1, e_bL, if_pos (by rw [ebr]; exact hne), y_E_120_19, s62, e_bV, s0, e_bI, s63, e_bV]
  exact c1'
end Trace
