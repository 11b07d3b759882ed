section Solve
variable {sp : Nat → Nat} {ph : Bool} {d : Nat} {m : y_m} {b L R A B lw what T hole : Nat}
/-- four cells are cleared -/
def m_cl4 (m : y_m) (to : Nat) : y_m := y_sJ (y_sJ (y_sJ (y_sJ m 9 (to + 0) m_F) 9 (to + 1) m_F) 9 (to + 2) m_F) 9 (to + 3) m_F
theorem m_cl4_F {to : Nat} : q_F (fun a k => a = 9 ∧ to ≤ k ∧ k < to + 4) m (m_cl4 m to) := q_F_trans (q_F_sJ (by omega)) (q_F_trans (q_F_sJ (by omega)) (q_F_trans (q_F_sJ (by omega)) (q_F_sJ (by omega))))
theorem m_cl4_to {to j : Nat} (hj : j < 4) : y_mJ (m_cl4 m to) 9 (to + j) = m_F := by
  unfold m_cl4
  rcases (show j = 0 ∨ j = 1 ∨ j = 2 ∨ j = 3 by omega) with rfl | rfl | rfl | rfl
  · rw [e_JJ' (by omega), e_JJ' (by omega), e_JJ' (by omega), e_JJ]
  · rw [e_JJ' (by omega), e_JJ' (by omega), e_JJ]
  · rw [e_JJ' (by omega), e_JJ]
  · rw [e_JJ]
theorem l_116s {to j : Nat} {x2 x3 x4 : Int} (hj : j < 4) (hto : to + 3 < 196608) : y_R sp ph (d + 1) 116 11 [some (y_bo 2 0 8), some (y_bo 0 0 b), some (y_bi x2), some (y_bi x3), some (y_bi x4), some (y_bi (to : Int)), some (y_bi (j : Int)), none, none] [] m = y_R sp ph (d + 1) 116 11 [some (y_bo 2 0 8), some (y_bo 0 0 b), some (y_bi x2), some (y_bi x3), some (y_bi x4), some (y_bi (to : Int)), some (y_bi ((j + 1 : Nat) : Int)), none, none] [] (y_sJ m 9 (to + j) m_F) := by
  have s10 := s_10 (sp := sp) (ph := ph) (d := d) (m := m) (n := 196608) (a := 9) (x := ((to + j : Nat) : Int)) (v := 9223372036854775807) (by omega) (by omega) (by omega)
  rw [Int.toNat_natCast] at s10
  have e : (to : Int) + (j : Int) = ((to + j : Nat) : Int) := by omega
  have e1 : (j : Int) + 1 = ((j + 1 : Nat) : Int) := by omega
  rw [y_E_116_11, if_neg (by rw [z_w_id (by omega) (by omega)]; omega), e, s10, e_bV, e1]
  rfl
theorem l_116t {to : Nat} {x2 x3 x4 : Int} (hto : to + 3 < 196608) : y_R sp ph (d + 1) 116 11 [some (y_bo 2 0 8), some (y_bo 0 0 b), some (y_bi x2), some (y_bi x3), some (y_bi x4), some (y_bi (to : Int)), some (y_bi 0), none, none] [] m = y_R sp ph (d + 1) 116 38 [some (y_bo 2 0 8), some (y_bo 0 0 b), some (y_bi x2), some (y_bi x3), some (y_bi x4), some (y_bi (to : Int)), none, none, none] [] (m_cl4 m to) := by
  have a0 := l_116s (sp := sp) (ph := ph) (d := d) (b := b) (m := m) (x2 := x2) (x3 := x3) (x4 := x4) (show 0 < 4 by omega) hto
  refine (show _ = _ from a0).trans ?_
  rw [l_116s (by omega) hto, l_116s (by omega) hto, l_116s (by omega) hto, y_E_116_11, if_pos (by decide)]
  rfl
theorem s_116 (hT : T < 4096) (hin : ∀ j, T.testBit j = true → j < L + R) (hb : T.testBit hole = true) (hl : hole ≠ n_low T) (hQ : m_Q m b L R A B lw) (hc : m_ct m what L R A B lw 144) (he : m_ce m what L R A B lw (w_rm T hole)) : ∃ m', y_V sp ph (d + 3) 116 [y_bo 2 0 8, y_bo 0 0 b, y_bi (T : Int), y_bi (n_low T : Int), y_bi (hole : Int)] m = y_rV m' ∧ q_F (fun a k => a = 9 ∧ (T * 12 + hole) * 4 ≤ k ∧ k < (T * 12 + hole) * 4 + 4) m m' ∧ (∀ o h, m_is (y_mJ m' 9 (m_ix T hole o h)) (m_P what L A B (m_c lw (m_kd lw L) (n_low T) (n_pop T - 2) hole (m_rs T hole) o h))) := by
  have hB := hQ.1
  obtain ⟨w1, w2, _⟩ := hB
  have hlr := hin _ hb
  have hT0 := m_nz hb
  have lo := w_low hT hT0
  have hlo := hin _ lo.2.2.1
  have hp2 := m_pop2 hT hb hl
  have hpU := n_pop_rm hT hb
  have hUT := m_lt_rm hb
  have hU := n_low_rm hT hb hl
  have s114 := s_114 (sp := sp) (ph := ph) (d := d + 1) (m := m) (x := T) (y := hole)
  have t := l_116t (sp := sp) (ph := ph) (d := d + 1) (b := b) (m := m) (x2 := (T : Int)) (x3 := (n_low T : Int)) (x4 := (hole : Int)) (to := (T * 12 + hole) * 4) (by omega)
  have F0 := @m_cl4_F m ((T * 12 + hole) * 4)
  have hQ0 := m_Q_F hQ F0 (fun a k h => by have := hQ.2.2.2.2.2.2.2; omega)
  have hc0 := m_ct_F hc F0 (fun a k h => by omega)
  have cell0 : ∀ o h : Bool, y_mJ (m_cl4 m ((T * 12 + hole) * 4)) 9 (m_ix T hole o h) = m_F := by
    intro o h
    rw [m_ix_eq, Nat.add_assoc]
    exact m_cl4_to (by cases o <;> cases h <;> decide)
  have ebef : z_iand (T : Int) (z_ixor (z_ishl 1 (hole : Int)) (-1)) = (w_rm T hole : Int) := by
    rw [n_one (by omega), n_not (by omega) (by have := Nat.pow_lt_pow_right (a := 2) (by decide) (show hole < 12 by omega); omega)]; rfl
  have p0 : 0 < 2 ^ n_low T := Nat.pow_pos (by decide)
  have p12 : 2 ^ n_low T < 4096 := by have := Nat.pow_lt_pow_right (a := 2) (by decide) (show n_low T < 12 by omega); omega
  by_cases q : w_rm T hole = 2 ^ n_low T
  · have hpop : n_pop T = 2 := by
      have := n_pop_p2 (n_low T) (by omega)
      rw [← q] at this; omega
    have hkb : (3 * (m_kd lw L (n_low T) hole).toNat) ≤ 3 := by cases m_kd lw L (n_low T) hole <;> decide
    have s113 := s_113 (sp := sp) (ph := ph) (d := d) hQ0 hc0 hlo hlr
    have s112 := s_112 (sp := sp) (ph := ph) (d := d) hQ0 hc0 hlo hlr
    have e3 : (((T * 12 + hole) * 4 : Nat) : Int) + 3 * n_b (m_kd lw L (n_low T) hole) = (((T * 12 + hole) * 4 + 3 * (m_kd lw L (n_low T) hole).toNat : Nat) : Int) := by
      cases m_kd lw L (n_low T) hole <;> simp [n_b]
    have s10 := s_10 (sp := sp) (ph := ph) (d := d + 1) (m := m_cl4 m ((T * 12 + hole) * 4)) (n := 196608) (a := 9) (x := (((T * 12 + hole) * 4 + 3 * (m_kd lw L (n_low T) hole).toNat : Nat) : Int)) (v := m_w what L A B (w_e (n_low T) hole)) (by omega) (by omega) (by omega)
    rw [Int.toNat_natCast] at s10
    refine ⟨_, ?_, q_F_trans F0 (q_F_sJ (a := 9) (k := (T * 12 + hole) * 4 + 3 * (m_kd lw L (n_low T) hole).toNat) (x := m_w what L A B (w_e (n_low T) hole)) ⟨rfl, by omega, by omega⟩), ?_⟩
    · have t' : y_R sp ph (d + 2) 116 11 [some (y_bo 2 0 8), some (y_bo 0 0 b), some (y_bi (T : Int)), some (y_bi (n_low T : Int)), some (y_bi (hole : Int)), some (y_bi (((T * 12 + hole) * 4 : Nat) : Int)), some (y_bi 0), none, none] [] m = _ := t
      have en : z_ishl 1 (n_low T : Int) = ((2 ^ n_low T : Nat) : Int) := n_one (by omega)
      simp (disch := omega) only [y_C_116, y_E_116_0, s114, e_bI, t', y_E_116_38, ebef, en, q, z_w_id, if_neg, not_true_eq_false, reduceIte, s113, s112, e_bL, e3, s10, e_bV]
    · intro o h
      have hf : n_pop T - 2 = 0 := by omega
      rw [hf]
      have hcb := m_w_b (what := what) (e := w_e (n_low T) hole) hQ.1 (by rcases w_e_fst (n_low T) hole with q | q <;> rcases w_e_snd (n_low T) hole with r | r <;> rw [q, r] <;> omega)
      by_cases ho : m_kd lw L (n_low T) hole = o ∧ m_kd lw L (n_low T) hole = h
      · obtain ⟨rfl, hh⟩ := ho
        rw [← hh, m_ix_eq, show (T * 12 + hole) * 4 + 2 * (m_kd lw L (n_low T) hole).toNat + (m_kd lw L (n_low T) hole).toNat = (T * 12 + hole) * 4 + 3 * (m_kd lw L (n_low T) hole).toNat by omega, e_JJ]
        refine Or.inr ⟨⟨[w_e (n_low T) hole], ⟨rfl, rfl, rfl⟩, ?_⟩, ?_, ?_⟩
        · show _ = _ + 0; omega
        · unfold m_F; omega
        · rintro x ⟨E, ⟨_, _, rfl⟩, rfl⟩
          show _ ≤ _ + 0; omega
      · rw [e_JJ' (by
          rintro ⟨_, e⟩
          rw [m_ix_eq] at e
          apply ho
          revert e
          cases o <;> cases h <;> cases m_kd lw L (n_low T) hole <;> simp <;> omega), cell0]
        refine m_is_none ?_
        rintro x ⟨E, ⟨g1, g2, _⟩, _⟩
        exact ho ⟨g1, g2⟩
  · have hpop : 3 ≤ n_pop T := by
      rcases Nat.lt_or_ge (n_pop T) 3 with r | r
      · exfalso
        apply q
        have hx : (w_rm T hole).testBit (n_low T) = true := by rw [w_rm_bit, lo.2.2.1, decide_eq_true (show n_low T ≠ hole from fun e => hl e.symm)]; rfl
        have hr : w_rm T hole < 4096 := by omega
        have h1 := n_pop_rm hr hx
        have h0 := n_pop_0 (x := w_rm (w_rm T hole) (n_low T)) (Nat.lt_of_le_of_lt (w_rm_le _ _) hr) (by omega)
        refine Nat.eq_of_testBit_eq fun i => ?_
        rw [Nat.testBit_two_pow]
        have h2 : (w_rm (w_rm T hole) (n_low T)).testBit i = false := by rw [h0]; simp
        rw [w_rm_bit] at h2
        by_cases e : n_low T = i
        · rw [← e, hx, decide_eq_true rfl]
        · rw [decide_eq_false e]
          rw [decide_eq_true (show i ≠ n_low T from fun r => e r.symm), Bool.and_true] at h2
          exact h2
      · exact r
    have hce0 : m_ce (m_cl4 m ((T * 12 + hole) * 4)) what L R A B lw (w_rm T hole) := fun x hx hbx hlx o h => by
      have := he x hx hbx hlx o h
      rw [q_F_J F0 9 _ (by
        rw [m_ix_eq]
        have : o.toNat ≤ 1 := by cases o <;> decide
        have : h.toNat ≤ 1 := by cases h <;> decide
        omega)]
      exact this
    obtain ⟨m2, c1, c2, c3⟩ := l_116 (sp := sp) (ph := ph) (d := d) hT hin hb hl hpop (12 - (n_low T + 1)) (n_low T + 1) _ (by omega) (by omega) hQ0 hc0 hce0 (fun o h => by
      rw [cell0]
      refine m_is_none ?_
      rintro x ⟨E, ⟨last, i, E', g1, g2, _⟩, _⟩
      rw [m_rs_bit, Bool.and_eq_true, Bool.and_eq_true] at g2
      have h1 := of_decide_eq_true g2.1.2
      have h2 := m_rs_in hin last (by rw [m_rs_bit, Bool.and_eq_true, Bool.and_eq_true]; exact g2)
      rw [lo.2.2.2 last (by omega) (by omega)] at g2
      exact absurd g2.1.1 (by decide))
    refine ⟨m2, ?_, q_F_trans F0 c2, fun o h => m_is_congr (c3 o h) (fun x => m_P_congr (fun E => ?_))⟩
    · have t' : y_R sp ph (d + 2) 116 11 [some (y_bo 2 0 8), some (y_bo 0 0 b), some (y_bi (T : Int)), some (y_bi (n_low T : Int)), some (y_bi (hole : Int)), some (y_bi (((T * 12 + hole) * 4 : Nat) : Int)), some (y_bi 0), none, none] [] m = _ := t
      have q' : ¬ (w_rm T hole : Int) = ((2 ^ n_low T : Nat) : Int) := by omega
      have e1 : (n_low T : Int) + 1 = ((n_low T + 1 : Nat) : Int) := by omega
      rw [← c1]
      have zw1 : z_w (w_rm T hole : Int) = (w_rm T hole : Int) := z_w_id (by omega) (by omega)
      have zw2 : z_w ((2 ^ n_low T : Nat) : Int) = ((2 ^ n_low T : Nat) : Int) := z_w_id (by omega) (by omega)
      have en : z_ishl 1 (n_low T : Int) = ((2 ^ n_low T : Nat) : Int) := n_one (by omega)
      simp only [y_C_116, y_E_116_0, s114, e_bI, t', y_E_116_38, ebef, en, zw1, zw2, if_pos q', y_E_116_83, e1]
    · have : n_pop T - 2 = (n_pop T - 3) + 1 := by omega
      rw [this]
      exact m_cl_12 (fun x hx => by have := m_rs_in (hole := hole) hin x hx; omega)
theorem l_115 (hT : T < 4096) (hT0 : 0 < T) (hin : ∀ j, T.testBit j = true → j < L + R) : ∀ (n l : Nat) (m : y_m), l + n = 12 → n_low T < l → m_Q m b L R A B lw → m_ct m what L R A B lw 144 → (∀ h, T.testBit h = true → h ≠ n_low T → m_ce m what L R A B lw (w_rm T h)) → (∀ x, x < l → T.testBit x = true → x ≠ n_low T → ∀ o h, m_is (y_mJ m 9 (m_ix T x o h)) (m_P what L A B (m_c lw (m_kd lw L) (n_low T) (n_pop T - 2) x (m_rs T x) o h))) → ∃ m', y_R sp ph (d + 3) 115 18 [some (y_bo 2 0 8), some (y_bo 0 0 b), some (y_bi (T : Int)), some (y_bi (w_rm T (n_low T) : Int)), some (y_bi (n_low T : Int)), some (y_bi (l : Int))] [] m = y_rV m' ∧ q_F (fun a k => a = 9 ∧ T * 48 ≤ k ∧ k < T * 48 + 48) m m' ∧ m_ce m' what L R A B lw T := by
  have lo := w_low hT hT0
  intro n
  induction n with
  | zero =>
    intro l m hn hs hQ hc he h2
    have : l = 12 := by omega
    subst this
    refine ⟨m, ?_, q_F_refl, fun x hx hb hl o h => h2 x hx hb hl o h⟩
    rw [y_E_115_18]
    simp (disch := omega) only [z_w_id, if_pos, y_E_115_50]
  | succ n ih =>
    intro l m hn hs hQ hc he h2
    have e1 : (l : Int) + 1 = ((l + 1 : Nat) : Int) := by omega
    have hrb : (w_rm T (n_low T)).testBit l = T.testBit l := by rw [w_rm_bit, decide_eq_true (show l ≠ n_low T by omega), Bool.and_true]
    have hrl : w_rm T (n_low T) < 4096 := w_rm_low hT
    rw [y_E_115_18]
    by_cases q : T.testBit l = true
    · obtain ⟨m1, a1, a2, a3⟩ := s_116 (sp := sp) (ph := ph) (d := d) hT hin q (by omega) hQ hc (he l q (by omega))
      have F2 : q_F (fun a k => a = 9 ∧ T * 48 ≤ k ∧ k < T * 48 + 48) m m1 := q_F_mono a2 (fun a k h => by omega)
      have b3 : ∀ o h : Bool, 2 * o.toNat + h.toNat < 4 := by intro o h; cases o <;> cases h <;> decide
      obtain ⟨m2, c1, c2, c3⟩ := ih (l + 1) m1 (by omega) (by omega) (m_Q_F hQ F2 (fun a k h => by have := hQ.2.2.2.2.2.2.2; omega)) (m_ct_F hc F2 (fun a k h => by omega)) (fun h hb hl x hx hbx hlx o i => by
        have := he h hb hl x hx hbx hlx o i
        have hlt := m_lt_rm hb
        rw [q_F_J F2 9 _ (by rw [m_ix_eq]; have := b3 o i; omega)]
        exact this) (fun x hx hbx hlx o i => by
        by_cases e : x = l
        · subst e; exact a3 o i
        · rw [q_F_J a2 9 _ (by rw [m_ix_eq]; have := b3 o i; omega)]
          exact h2 x (by omega) hbx hlx o i)
      refine ⟨m2, ?_, q_F_trans F2 c2, c3⟩
      rw [← c1]
      simp (disch := omega) only [z_w_id, if_neg, n_bit, hrb, q, reduceIte, a1, e_bV, y_E_115_44, e1]
    · have q' : T.testBit l = false := by
        cases r : T.testBit l
        · rfl
        · exact absurd r q
      obtain ⟨m2, c1, c2, c3⟩ := ih (l + 1) m (by omega) (by omega) hQ hc he (fun x hx hbx hlx o i => h2 x (by
        rcases Nat.lt_or_ge x l with r | r
        · exact r
        · have : x = l := by omega
          subst this; exact absurd hbx q) hbx hlx o i)
      refine ⟨m2, ?_, c2, c3⟩
      rw [← c1]
      simp (disch := omega) only [z_w_id, if_neg, if_pos, n_bit, hrb, q', reduceIte, Bool.false_eq_true, y_E_115_44, e1]
theorem s_0z : y_V sp ph (d + 1) 0 [y_bi 0] m = y_rI 32 m := by
  rw [y_C_0, y_E_0_0, if_neg (by decide)]
  rfl
theorem s_115 (hT : T < 4096) (hin : ∀ j, T.testBit j = true → j < L + R) (hQ : m_Q m b L R A B lw) (hc : m_ct m what L R A B lw 144) (he : ∀ h, T.testBit h = true → h ≠ n_low T → m_ce m what L R A B lw (w_rm T h)) : ∃ m', y_V sp ph (d + 4) 115 [y_bo 2 0 8, y_bo 0 0 b, y_bi (T : Int)] m = y_rV m' ∧ q_F (fun a k => a = 9 ∧ T * 48 ≤ k ∧ k < T * 48 + 48) m m' ∧ m_ce m' what L R A B lw T := by
  rcases Nat.eq_zero_or_pos T with q | q
  · subst q
    refine ⟨m, ?_, q_F_refl, fun x hx hb => by simp at hb⟩
    have s0 := s_0z (sp := sp) (ph := ph) (d := d + 2) (m := m)
    rw [y_C_115, y_E_115_0]
    show y_bI (y_V sp ph (d + 3) 0 [y_bi 0] m) _ _ = _
    rw [s0, e_bI, y_E_115_18, if_pos (by decide), y_E_115_50]
  · have lo := w_low hT q
    have s0 := s_0 (sp := sp) (ph := ph) (d := d + 2) (m := m) hT q
    obtain ⟨m2, c1, c2, c3⟩ := l_115 (sp := sp) (ph := ph) (d := d) hT q hin (12 - (n_low T + 1)) (n_low T + 1) m (by omega) (by omega) hQ hc he (fun x hx hbx hlx => by
      rw [lo.2.2.2 x (by omega) (by omega)] at hbx; cases hbx)
    refine ⟨m2, ?_, c2, c3⟩
    have e1 : (n_low T : Int) + 1 = ((n_low T + 1 : Nat) : Int) := by omega
    have er : z_iand (T : Int) ((T : Int) - 1) = (w_rm T (n_low T) : Int) := by
      rw [show (T : Int) - 1 = ((T - 1 : Nat) : Int) by omega, n_iand (by omega) (by omega), lo.1]
    rw [y_C_115, y_E_115_0, s0, e_bI, er, e1]
    exact c1
end Solve
