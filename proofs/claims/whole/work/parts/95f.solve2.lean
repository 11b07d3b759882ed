/-! ===== the class's finder: a cell, a set, all sets ===== -/
section Solve
variable {sp : Nat → Nat} {ph : Bool} {d : Nat} {m : y_m} {b L R A B lw what T hole : Nat}
theorem m_rs_bit {x : Nat} : (m_rs T hole).testBit x = (T.testBit x && decide (x ≠ n_low T) && decide (x ≠ hole)) := by unfold m_rs; rw [w_rm_bit, w_rm_bit]
theorem m_rs_in (hT : ∀ j, T.testBit j = true → j < L + R) : ∀ x, (m_rs T hole).testBit x = true → x < L + R := fun x hx => by
  rw [m_rs_bit, Bool.and_eq_true, Bool.and_eq_true] at hx; exact hT x hx.1.1
theorem m_nz (h : T.testBit hole = true) : 0 < T := by
  rcases Nat.eq_zero_or_pos T with q | q
  · rw [q] at h; simp at h
  · exact q
theorem m_pop2 (hT : T < 4096) (hb : T.testBit hole = true) (hl : hole ≠ n_low T) : n_pop (m_rs T hole) + 2 = n_pop T := by
  have a := n_pop_rm hT (w_low hT (m_nz hb)).2.2.1
  have c := n_pop_rm (w_rm_low hT) (show (w_rm T (n_low T)).testBit hole = true by rw [w_rm_bit, hb, decide_eq_true hl]; rfl)
  unfold m_rs; omega
theorem m_cl_ok {f l : Nat} {o h : Bool} {E : List (Nat × Nat)} (hT : T < 4096) (hin : ∀ j, T.testBit j = true → j < L + R) (hb : T.testBit hole = true) (hl : hole ≠ n_low T) (hf : f ≤ 9) (g : m_cl lw (m_kd lw L) (n_low T) f hole (m_rs T hole) o h l E) : (∀ e ∈ E, e.1 < L + R ∧ e.2 < L + R) ∧ E.length ≤ 12 := by
  obtain ⟨last, i, E', g1, g2, g3, g4, g5, rfl⟩ := g
  have lo := w_low hT (m_nz hb)
  have hl2 := m_rs_in hin last g2
  rw [m_rs_bit, Bool.and_eq_true, Bool.and_eq_true] at g2
  have hls : last ≠ n_low T := of_decide_eq_true g2.1.2
  obtain ⟨a1, a2, a3⟩ := m_c_ok (m_kd_comm lw L) (hin _ lo.2.2.1) hl2 hls (by rw [w_rm_bit]; simp) (by rw [w_rm_bit, m_rs_bit]; simp) (fun x hx => m_rs_in (hole := hole) hin x (by rw [w_rm_bit, Bool.and_eq_true] at hx; exact hx.1)) g5
  refine ⟨fun e he => ?_, by rw [List.length_cons, a3]; omega⟩
  rcases List.mem_cons.mp he with rfl | he
  · have := hin _ hb
    rcases w_e_fst last hole with q | q <;> rcases w_e_snd last hole with r | r <;> rw [q, r] <;> omega
  · have := a2 e he; omega
theorem m_c_ok2 {f last : Nat} {i h : Bool} {E : List (Nat × Nat)} (hT : T < 4096) (hin : ∀ j, T.testBit j = true → j < L + R) (hb : T.testBit hole = true) (hf : f ≤ 9) (hl : (m_rs T hole).testBit last = true) (g : m_c lw (m_kd lw L) (n_low T) f last (w_rm (m_rs T hole) last) i h E) : (∀ e ∈ E, e.1 < L + R ∧ e.2 < L + R) ∧ E.length ≤ 12 := by
  have lo := w_low hT (m_nz hb)
  have hl2 := m_rs_in hin last hl
  rw [m_rs_bit, Bool.and_eq_true, Bool.and_eq_true] at hl
  have hls : last ≠ n_low T := of_decide_eq_true hl.1.2
  obtain ⟨a1, a2, a3⟩ := m_c_ok (m_kd_comm lw L) (hin _ lo.2.2.1) hl2 hls (by rw [w_rm_bit]; simp) (by rw [w_rm_bit, m_rs_bit]; simp) (fun x hx => m_rs_in (hole := hole) hin x (by rw [w_rm_bit, Bool.and_eq_true] at hx; exact hx.1)) g
  exact ⟨fun e he => by have := a2 e he; omega, by rw [a3]; omega⟩
theorem m_ix_eq {o h : Bool} : m_ix T hole o h = (T * 12 + hole) * 4 + 2 * o.toNat + h.toNat := rfl
theorem m_lt_rm (hb : T.testBit hole = true) : w_rm T hole < T := by
  rcases Nat.lt_or_ge (w_rm T hole) T with q | q
  · exact q
  · have e : w_rm T hole = T := Nat.le_antisymm (w_rm_le _ _) q
    have : (w_rm T hole).testBit hole = true := by rw [e]; exact hb
    rw [w_rm_bit] at this; simp at this
theorem l_116 (hT : T < 4096) (hin : ∀ j, T.testBit j = true → j < L + R) (hb : T.testBit hole = true) (hl : hole ≠ n_low T) (hp : 3 ≤ n_pop T) : ∀ (n l : Nat) (m : y_m), l + n = 12 → n_low T < l → m_Q m b L R A B lw → m_ct m what L R A B lw 144 → m_ce m what L R A B lw (w_rm T hole) → (∀ o h, m_is (y_mJ m 9 (m_ix T hole o h)) (m_P what L A B (m_cl lw (m_kd lw L) (n_low T) (n_pop T - 3) hole (m_rs T hole) o h l))) → ∃ m', y_R sp ph (d + 2) 116 88 [some (y_bo 2 0 8), some (y_bo 0 0 b), none, none, some (y_bi (hole : Int)), some (y_bi (((T * 12 + hole) * 4 : Nat) : Int)), some (y_bi (w_rm T hole : Int)), some (y_bi (l : Int)), none] [] m = y_rV m' ∧ q_F (fun a k => a = 9 ∧ (T * 12 + hole) * 4 ≤ k ∧ k < (T * 12 + hole) * 4 + 4) m m' ∧ (∀ o h, m_is (y_mJ m' 9 (m_ix T hole o h)) (m_P what L A B (m_cl lw (m_kd lw L) (n_low T) (n_pop T - 3) hole (m_rs T hole) o h 12))) := by
  have hlr := hin _ hb
  have hUT := m_lt_rm hb
  have hU := n_low_rm hT hb hl
  have hpl := n_pop_le hT
  have hpU := n_pop_rm hT hb
  intro n
  induction n with
  | zero =>
    intro l m hn hs hQ hc he h2
    have : l = 12 := by omega
    subst this
    refine ⟨m, ?_, q_F_refl, h2⟩
    rw [y_E_116_88]
    simp (disch := omega) only [z_w_id, if_pos, y_E_116_150]
  | succ n ih =>
    intro l m hn hs hQ hc he h2
    have hQ' := hQ
    obtain ⟨hB, q2, q3, q4, q5, q6, q7, q8⟩ := hQ'
    have hB' := hB
    obtain ⟨w1, w2, _⟩ := hB'
    have hbit : (w_rm T hole).testBit l = (m_rs T hole).testBit l := by
      rw [m_rs_bit, w_rm_bit, decide_eq_true (show l ≠ n_low T by omega), Bool.and_true]
    rw [y_E_116_88]
    by_cases q : (m_rs T hole).testBit l = true
    · have hll := m_rs_in hin l q
      have q' := q
      rw [m_rs_bit, Bool.and_eq_true, Bool.and_eq_true] at q'
      have hbU : (w_rm T hole).testBit l = true := by rw [hbit]; exact q
      have hcell : ∀ i h : Bool, m_is (y_mJ m 9 ((w_rm T hole * 12 + l) * 4 + 2 * i.toNat + h.toNat)) (m_P what L A B (m_c lw (m_kd lw L) (n_low T) (n_pop T - 3) l (w_rm (m_rs T hole) l) i h)) := fun i h => by
        have := he l (by omega) hbU (by rw [hU]; omega) i h
        rw [hU, show n_pop (w_rm T hole) - 2 = n_pop T - 3 by omega] at this
        unfold m_rs at this ⊢
        rw [hU, w_rm_comm T hole (n_low T)] at this
        exact this
      have hbdE : ∀ i h E, m_c lw (m_kd lw L) (n_low T) (n_pop T - 3) l (w_rm (m_rs T hole) l) i h E → (∀ e ∈ E, e.1 < L + R ∧ e.2 < L + R) ∧ E.length ≤ 12 := fun i h E g => m_c_ok2 hT hin hb (by omega) q g
      have b4 : ∀ j, j < 4 → m_bd (y_mJ m 9 ((w_rm T hole * 12 + l) * 4 + j)) := by
        intro j hj
        have k := fun i h => m_is_bd (R := R) hB (hbdE i h) (hcell i h)
        rcases (show j = 0 ∨ j = 1 ∨ j = 2 ∨ j = 3 by omega) with rfl | rfl | rfl | rfl
        · exact k false false
        · exact k false true
        · exact k true false
        · exact k true true
      have b2 : ∀ j, j < 2 → m_rg (y_mJ m 9 ((T * 12 + hole) * 4 + 2 * (m_kd lw L l hole).toNat + j)) := by
        intro j hj
        have k := fun h => m_is_bd (R := R) hB (fun E g => m_cl_ok hT hin hb hl (by omega) g) (h2 (m_kd lw L l hole) h)
        have k2 : ∀ v, m_bd v → m_rg v := by intro v hv; unfold m_bd at hv; unfold m_rg; unfold m_F at *; omega
        rcases (show j = 0 ∨ j = 1 by omega) with rfl | rfl
        · exact k2 _ (k false)
        · exact k2 _ (k true)
      have hcb := m_w_b (what := what) (e := w_e l hole) hB (by rcases w_e_fst l hole with q | q <;> rcases w_e_snd l hole with r | r <;> rw [q, r] <;> omega)
      have hk2 : 2 * (m_kd lw L l hole).toNat ≤ 2 := by cases m_kd lw L l hole <;> decide
      have s117 := s_117 (sp := sp) (ph := ph) (d := d) (m := m) (b := b) (lw := lw) (fr := (w_rm T hole * 12 + l) * 4) (to := (T * 12 + hole) * 4 + 2 * (m_kd lw L l hole).toNat) (k := m_kd lw L l hole) (c := m_w what L A B (w_e l hole)) q5 q2 (by omega) (by omega) (by omega) (by omega) (by omega) b4 b2
      have e2 : (((T * 12 + hole) * 4 : Nat) : Int) + 2 * n_b (m_kd lw L l hole) = (((T * 12 + hole) * 4 + 2 * (m_kd lw L l hole).toNat : Nat) : Int) := by
        cases m_kd lw L l hole <;> simp [n_b]
      have F := @m_up4_F m lw ((w_rm T hole * 12 + l) * 4) ((T * 12 + hole) * 4 + 2 * (m_kd lw L l hole).toNat) (m_kd lw L l hole) (m_w what L A B (w_e l hole))
      have A1 := m_up4_is (m := m) (lw := lw) (s := n_low T) (f := n_pop T - 3) (hole := hole) (rest := m_rs T hole) (l := l) (fr := (w_rm T hole * 12 + l) * 4) (to := (T * 12 + hole) * 4) (what := what) hB hll hlr (by omega) q hbdE hcell h2
      have F2 : q_F (fun a k => a = 9 ∧ (T * 12 + hole) * 4 ≤ k ∧ k < (T * 12 + hole) * 4 + 4) m _ := q_F_mono F (fun a k h => by omega)
      obtain ⟨m2, c1, c2, c3⟩ := ih (l + 1) _ (by omega) (by omega) (m_Q_F hQ F2 (fun a k h => by omega)) (m_ct_F hc F2 (fun a k h => by omega)) (fun x hx hbx hlx o h => by
        have := he x hx hbx hlx o h
        rw [q_F_J F2 9 _ (by
          rw [m_ix_eq]
          have : o.toNat ≤ 1 := by cases o <;> decide
          have : h.toNat ≤ 1 := by cases h <;> decide
          omega)]
        exact this) A1
      refine ⟨m2, ?_, q_F_trans F2 c2, c3⟩
      have s113 := s_113 (sp := sp) (ph := ph) (d := d) hQ hc hll hlr
      have s112 := s_112 (sp := sp) (ph := ph) (d := d) hQ hc hll hlr
      have s114 := s_114 (sp := sp) (ph := ph) (d := d + 1) (m := m) (x := w_rm T hole) (y := l)
      rw [← c1]
      simp (disch := omega) only [z_w_id, if_neg, n_bit, hbU, reduceIte, s113, s114, s112, e_bI, e_bL, e2, s117, e_bV, y_E_116_144]
      rfl
    · have hbU : (w_rm T hole).testBit l = false := by
        rw [hbit]
        cases r : (m_rs T hole).testBit l
        · rfl
        · exact absurd r q
      obtain ⟨m2, c1, c2, c3⟩ := ih (l + 1) m (by omega) (by omega) hQ hc he (fun o h => m_is_congr (h2 o h) (fun x => (m_P_congr (fun E => m_cl_no (Or.inl (by rw [← hbit]; exact hbU)))).symm))
      refine ⟨m2, ?_, c2, c3⟩
      rw [← c1]
      simp (disch := omega) only [z_w_id, if_neg, if_pos, n_bit, hbU, reduceIte, Bool.false_eq_true, y_E_116_144]
      rfl
end Solve
