section Solve
variable {sp : Nat → Nat} {ph : Bool} {d : Nat} {m : y_m} {b L R A B lw what H T hole W : Nat}
theorem m_h_U {s f rest : Nat} {k bg : Bool} {x : Int} : m_P what L A B (m_h lw (m_kd lw L) s f hole k rest bg) x ↔ ∃ o h : Bool, (r_may lw o k && r_may lw h bg) = true ∧ m_P what L A B (m_c lw (m_kd lw L) s f hole rest o h) x := by
  constructor
  · rintro ⟨E, g, e⟩
    obtain ⟨o, h, g1, g2, g3⟩ := (m_hc (m_kd_comm lw L) f hole k rest bg E).mp g
    exact ⟨o, h, by rw [r_may_comm lw o k, g1, g2]; rfl, E, g3, e⟩
  · rintro ⟨o, h, g, E, g3, e⟩
    rw [Bool.and_eq_true] at g
    exact ⟨E, (m_hc (m_kd_comm lw L) f hole k rest bg E).mpr ⟨o, h, by rw [r_may_comm lw k o]; exact g.1, g.2, g3⟩, e⟩
theorem m_bd_rg {v : Int} (h : m_bd v) : m_rg v := by unfold m_bd at h; unfold m_rg; unfold m_F at *; omega
theorem m_ce_bd (hQ : m_Q m b L R A B lw) (hT : T < 4096) (hin : ∀ j, T.testBit j = true → j < L + R) (hb : T.testBit hole = true) (hl : hole ≠ n_low T) (he : m_ce m what L R A B lw T) (o h : Bool) : m_bd (y_mJ m 9 ((T * 12 + hole) * 4 + 2 * o.toNat + h.toNat)) := by
  have hB := hQ.1
  have hlr := hin _ hb
  have lo := w_low hT (m_nz hb)
  have hpl := n_pop_le hT
  refine m_is_bd (R := R) hB (fun E g => ?_) (he hole (by have := hB.1; have := hB.2.1; omega) hb hl o h)
  obtain ⟨a1, a2, a3⟩ := m_c_ok (m_kd_comm lw L) (hin _ lo.2.2.1) hlr hl (by rw [m_rs_bit]; simp) (by rw [m_rs_bit]; simp) (m_rs_in hin) g
  exact ⟨fun e he => by have := a2 e he; omega, by rw [a3]; omega⟩
theorem s_118 {k bg : Bool} (hQ : m_Q m b L R A B lw) (hT : T < 4096) (hin : ∀ j, T.testBit j = true → j < L + R) (hb : T.testBit hole = true) (hl : hole ≠ n_low T) (he : m_ce m what L R A B lw T) : ∃ v, y_V sp ph (d + 2) 118 [y_bo 2 0 8, y_bo 0 0 b, y_bi (T : Int), y_bi (hole : Int), y_bi (n_b k), y_bi (n_b bg)] m = y_rL v m ∧ m_bd v ∧ m_is v (m_P what L A B (m_h lw (m_kd lw L) (n_low T) (n_pop T - 2) hole k (m_rs T hole) bg)) := by
  have hB := hQ.1
  obtain ⟨w1, w2, _⟩ := hB
  have hw := hQ.2.2.2.2.1
  have hlw := hQ.2.1
  have hlr := hin _ hb
  have hix : (T * 12 + hole) * 4 + 3 < 196608 := by omega
  have cbd := fun o h => m_bd_rg (m_ce_bd hQ hT hin hb hl he o h)
  have cis := fun o h => he hole (by omega) hb hl o h
  have c4 : ∀ j, j < 4 → m_rg (y_mJ m 9 ((T * 12 + hole) * 4 + j)) := by
    intro j hj
    rcases (show j = 0 ∨ j = 1 ∨ j = 2 ∨ j = 3 by omega) with rfl | rfl | rfl | rfl
    · exact cbd false false
    · exact cbd false true
    · exact cbd true false
    · exact cbd true true
  have rF : m_rg m_F := by unfold m_rg m_F; omega
  have s114 := s_114 (sp := sp) (ph := ph) (d := d) (m := m) (x := T) (y := hole)
  have st : y_V sp ph (d + 2) 118 [y_bo 2 0 8, y_bo 0 0 b, y_bi (T : Int), y_bi (hole : Int), y_bi (n_b k), y_bi (n_b bg)] m = y_R sp ph (d + 1) 118 29 [some (y_bo 2 0 8), some (y_bo 0 0 b), none, none, some (y_bi (n_b k)), some (y_bi (n_b bg)), some (y_bi (((T * 12 + hole) * 4 : Nat) : Int)), some (y_bi (n_b (!decide (lw = 0)))), some (y_bl m_F), none, some (y_bi (n_b false)), none] [] m := by
    by_cases c0 : lw = 0
    · simp (disch := omega) only [y_C_118, y_E_118_0, y_E_118_19, s114, e_bI, hw, z_w_id, if_neg]
      rw [decide_eq_true c0]; rfl
    · simp (disch := omega) only [y_C_118, y_E_118_0, y_E_118_18, y_E_118_19, s114, e_bI, hw, z_w_id, if_pos]
      rw [decide_eq_false c0]; rfl
  have r1 := l_118h (sp := sp) (ph := ph) (d := d) (m := m) (b := b) (lw := lw) (ix := (T * 12 + hole) * 4) (k := k) (bg := bg) (o := false) (v := m_F) hw hlw hix rF c4 (by cases decide (lw = 0) <;> decide)
  rw [st, r1]
  have i0 : m_is m_F (fun _ : Int => False) := m_is_none (fun _ h => h)
  have i1 := m_mi_is (p := r_may lw false k && r_may lw false bg) i0 (cis false false)
  by_cases c0 : lw = 0
  · subst c0
    refine ⟨m_mi (r_may 0 false k && r_may 0 false bg) (y_mJ m 9 (m_ix T hole false false)) m_F, ?_, ?_, ?_⟩
    · rw [y_E_118_29, if_pos (by decide), y_E_118_104]
      rfl
    · show m_bd (if y_mJ m 9 (m_ix T hole false false) < m_F then _ else _)
      split
      · exact m_ce_bd hQ hT hin hb hl he false false
      · exact Or.inl rfl
    · refine m_is_congr i1 (fun x => ?_)
      rw [m_h_U]
      constructor
      · rintro (q | ⟨q1, q2⟩)
        · exact absurd q id
        · exact ⟨false, false, q1, q2⟩
      · rintro ⟨o, h, q1, E, q2, q3⟩
        obtain ⟨rfl, rfl⟩ := m_c_k0 _ _ _ _ _ _ q2
        exact Or.inr ⟨q1, E, q2, q3⟩
  · have i2 := m_mi_is (p := r_may lw false k && r_may lw true bg) i1 (cis false true)
    have i3 := m_mi_is (p := r_may lw true k && r_may lw false bg) i2 (cis true false)
    have i4 := m_mi_is (p := r_may lw true k && r_may lw true bg) i3 (cis true true)
    have v1 := m_mi_rg (p := r_may lw false k && r_may lw true bg) (cbd false true) (m_mi_rg (p := r_may lw false k && r_may lw false bg) (cbd false false) rF)
    have r2 := l_118h (sp := sp) (ph := ph) (d := d) (m := m) (b := b) (lw := lw) (ix := (T * 12 + hole) * 4) (k := k) (bg := bg) (o := true) hw hlw hix v1 c4 (by rw [decide_eq_false c0]; decide)
    rw [decide_eq_false c0] at r2 ⊢
    have bd4 : ∀ p c v, m_bd c → m_bd v → m_bd (m_mi p c v) := by
      intro p c v h1 h2; unfold m_mi; repeat' split
      all_goals assumption
    refine ⟨_, ?_, ?_, m_is_congr i4 (fun x => ?_)⟩
    · refine (show _ = _ from r2).trans ?_
      rw [y_E_118_29, if_pos (by decide), y_E_118_104]
      rfl
    · have cb := fun o h => m_ce_bd hQ hT hin hb hl he o h
      exact bd4 _ _ _ (cb true true) (bd4 _ _ _ (cb true false) (bd4 _ _ _ (cb false true) (bd4 _ _ _ (cb false false) (Or.inl rfl))))
    · rw [m_h_U]
      constructor
      · rintro ((((q | ⟨q1, q2⟩) | ⟨q1, q2⟩) | ⟨q1, q2⟩) | ⟨q1, q2⟩)
        · exact absurd q id
        · exact ⟨false, false, q1, q2⟩
        · exact ⟨false, true, q1, q2⟩
        · exact ⟨true, false, q1, q2⟩
        · exact ⟨true, true, q1, q2⟩
      · rintro ⟨o, h, q1, q2⟩
        cases o <;> cases h
        · exact Or.inl (Or.inl (Or.inl (Or.inr ⟨q1, q2⟩)))
        · exact Or.inl (Or.inl (Or.inr ⟨q1, q2⟩))
        · exact Or.inl (Or.inr ⟨q1, q2⟩)
        · exact Or.inr ⟨q1, q2⟩
/-- rounds by their second hole -/
def m_rl (lw : Nat) (kd : Nat → Nat → Bool) (s f rest l : Nat) (E : List (Nat × Nat)) : Prop := ∃ h E', h < l ∧ rest.testBit h = true ∧ m_h lw kd s f h (kd s h) (w_rm rest h) (kd s h) E' ∧ E = w_e s h :: E'
theorem m_rl_no {kd : Nat → Nat → Bool} {s f rest l : Nat} {E : List (Nat × Nat)} (hb : rest.testBit l = false) : m_rl lw kd s f rest (l + 1) E ↔ m_rl lw kd s f rest l E := by
  constructor
  · rintro ⟨h, E', h1, h2, h3⟩
    refine ⟨h, E', ?_, h2, h3⟩
    rcases Nat.lt_or_ge h l with q | q
    · exact q
    · have : h = l := by omega
      subst this
      rw [h2] at hb; cases hb
  · rintro ⟨h, E', h1, h2⟩; exact ⟨h, E', by omega, h2⟩
theorem m_rl_yes {kd : Nat → Nat → Bool} {s f rest l : Nat} {E : List (Nat × Nat)} (hb : rest.testBit l = true) : m_rl lw kd s f rest (l + 1) E ↔ m_rl lw kd s f rest l E ∨ ∃ E', m_h lw kd s f l (kd s l) (w_rm rest l) (kd s l) E' ∧ E = w_e s l :: E' := by
  constructor
  · rintro ⟨h, E', h1, h2, h3, h4⟩
    rcases Nat.lt_or_ge h l with q | q
    · exact Or.inl ⟨h, E', q, h2, h3, h4⟩
    · have : h = l := by omega
      subst this
      exact Or.inr ⟨E', h3, h4⟩
  · rintro (⟨h, E', h1, h2⟩ | ⟨E', h3, h4⟩)
    · exact ⟨h, E', by omega, h2⟩
    · exact ⟨l, E', by omega, hb, h3, h4⟩
def m_RD (lw L T : Nat) (E : List (Nat × Nat)) : Prop := m_rd lw (m_kd lw L) (n_low T) (n_pop T - 2) (w_rm T (n_low T)) E
theorem m_RD_ok {E : List (Nat × Nat)} (hT : T < 4096) (hin : ∀ j, T.testBit j = true → j < L + R) (hp : 3 ≤ n_pop T) (g : m_RD lw L T E) : m_E L R E ∧ E.length = n_pop T := by
  have hT0 : 0 < T := by
    rcases Nat.eq_zero_or_pos T with q | q
    · rw [q, show n_pop 0 = 0 from by decide] at hp; omega
    · exact q
  have lo := w_low hT hT0
  have hpl := n_pop_le hT
  obtain ⟨a1, a2, a3⟩ := m_rd_ok (hin _ lo.2.2.1) (by omega) (by rw [w_rm_bit]; simp) (fun x hx => hin x (by rw [w_rm_bit, Bool.and_eq_true] at hx; exact hx.1)) g
  exact ⟨⟨⟨a1, a2⟩, by omega⟩, by omega⟩
theorem m_h_ok2 {l : Nat} {k bg : Bool} {E : List (Nat × Nat)} (hT : T < 4096) (hin : ∀ j, T.testBit j = true → j < L + R) (hb : T.testBit l = true) (hl : l ≠ n_low T) (g : m_h lw (m_kd lw L) (n_low T) (n_pop T - 2) l k (m_rs T l) bg E) : E.Nodup ∧ (∀ e ∈ E, e.1 < e.2 ∧ e.2 < L + R) ∧ E.length = n_pop T - 2 + 1 := by
  have lo := w_low hT (m_nz hb)
  have := m_h_ok (hin _ lo.2.2.1) _ l k (m_rs T l) bg E (hin _ hb) hl (by rw [m_rs_bit]; simp) (by rw [m_rs_bit]; simp) (m_rs_in hin) g
  exact ⟨this.1, this.2.1, this.2.2.1⟩
theorem l_119 (hQ : m_Q m b L R A B lw) (hT : T < 4096) (hp : 3 ≤ n_pop T) (hin : ∀ j, T.testBit j = true → j < L + R) (hc : m_ct m what L R A B lw 144) (he : m_ce m what L R A B lw T) : ∀ (n l : Nat) (v : Int), l + n = 12 → n_low T < l → m_bd v → m_is v (m_P what L A B (m_rl lw (m_kd lw L) (n_low T) (n_pop T - 2) (w_rm T (n_low T)) l)) → ∃ v', y_R sp ph (d + 2) 119 26 [some (y_bo 2 0 8), some (y_bo 0 0 b), some (y_bi (T : Int)), some (y_bl v), none, some (y_bi (n_low T : Int)), some (y_bi (l : Int)), none, none, none] [] m = y_rL v' m ∧ m_rg v' ∧ m_is v' (m_P what L A B (m_rl lw (m_kd lw L) (n_low T) (n_pop T - 2) (w_rm T (n_low T)) 12)) := by
  have hT0 : 0 < T := by
    rcases Nat.eq_zero_or_pos T with q | q
    · rw [q, show n_pop 0 = 0 from by decide] at hp; omega
    · exact q
  have lo := w_low hT hT0
  have hlo := hin _ lo.2.2.1
  have hB := hQ.1
  have hpl := n_pop_le hT
  intro n
  induction n with
  | zero =>
    intro l v hn hs hv hi
    have : l = 12 := by omega
    subst this
    refine ⟨v, ?_, m_bd_rg hv, hi⟩
    rw [y_E_119_26]
    simp (disch := omega) only [z_w_id, if_pos, y_E_119_97]
  | succ n ih =>
    intro l v hn hs hv hi
    have e1 : (l : Int) + 1 = ((l + 1 : Nat) : Int) := by omega
    have hrb : (w_rm T (n_low T)).testBit l = T.testBit l := by rw [w_rm_bit, decide_eq_true (show l ≠ n_low T by omega), Bool.and_true]
    rw [y_E_119_26]
    by_cases q : T.testBit l = true
    · have hll := hin l q
      have s113 := s_113 (sp := sp) (ph := ph) (d := d) hQ hc hlo hll
      have s112 := s_112 (sp := sp) (ph := ph) (d := d) hQ hc hlo hll
      obtain ⟨y, y1, y2, y3⟩ := s_118 (sp := sp) (ph := ph) (d := d) (k := m_kd lw L (n_low T) l) (bg := m_kd lw L (n_low T) l) hQ hT hin q (by omega) he
      have hcb := m_w_b (what := what) (e := w_e (n_low T) l) hB (by rcases w_e_fst (n_low T) l with q | q <;> rcases w_e_snd (n_low T) l with r | r <;> rw [q, r] <;> omega)
      have y4 := m_is_ad (x := n_low T) (y := l) (R := R) hB ⟨hlo, hll⟩ (fun E g => by
        obtain ⟨a1, a2, a3⟩ := m_h_ok2 hT hin q (by omega) g
        exact ⟨fun e he => by have := a2 e he; omega, by omega⟩) y3
      have hi2 := m_is_or hi y4
      have hi3 : m_is (if m_ad y (m_w what L A B (w_e (n_low T) l)) < v then m_ad y (m_w what L A B (w_e (n_low T) l)) else v) (m_P what L A B (m_rl lw (m_kd lw L) (n_low T) (n_pop T - 2) (w_rm T (n_low T)) (l + 1))) := by
        refine m_is_congr hi2 (fun x => ?_)
        rw [← m_P_or]
        exact m_P_congr (fun E => (m_rl_yes (by rw [hrb]; exact q)).symm)
      have bd3 : m_bd (if m_ad y (m_w what L A B (w_e (n_low T) l)) < v then m_ad y (m_w what L A B (w_e (n_low T) l)) else v) := m_is_bd (R := R) hB (fun E g => by
        obtain ⟨h, E', g1, g2, g3, rfl⟩ := g
        have g2' := g2
        rw [w_rm_bit, Bool.and_eq_true] at g2'
        have gl := of_decide_eq_true g2'.2
        have gh := hin h g2'.1
        obtain ⟨a1, a2, a3⟩ := m_h_ok2 hT hin g2'.1 gl g3
        refine ⟨fun e he => ?_, by rw [List.length_cons, a3]; omega⟩
        rcases List.mem_cons.mp he with rfl | he
        · rcases w_e_fst (n_low T) h with q | q <;> rcases w_e_snd (n_low T) h with r | r <;> rw [q, r] <;> omega
        · have := a2 e he; omega) hi3
      obtain ⟨v', c1, c2, c3⟩ := ih (l + 1) _ (by omega) (by omega) bd3 hi3
      refine ⟨v', ?_, c2, c3⟩
      rw [← c1]
      have hvr := m_bd_rg hv
      have yr := m_bd_rg y2
      unfold m_rg m_F at hvr yr
      have ebr : (z_w (z_lcmp y 9223372036854775807) = 0) = (y = 9223372036854775807) := n_lc_eq (by omega) (by omega) (by omega) (by omega)
      simp (disch := omega) only [z_w_id, if_neg, n_bit, q, reduceIte, s113, y1, e_bI, e_bL, ebr, y_E_119_91]
      unfold m_ad
      by_cases z : y = m_F
      · have z' : y = 9223372036854775807 := z
        have nz : ¬ (m_F < v) := by unfold m_F; omega
        rw [if_pos z', if_pos z, if_neg nz, e1]
        try rfl
      · have z' : ¬ y = 9223372036854775807 := z
        have yb : -4000000000000000000 ≤ y ∧ y ≤ 4000000000000000000 := by
          rcases y2 with r | r
          · exact absurd r z
          · exact r
        rw [if_neg z', if_neg z, s112, e_bL, s_6 (by omega) (by omega) (by omega) (by omega), e_bL, e1]
        try rfl
    · have q' : T.testBit l = false := by
        cases r : T.testBit l
        · rfl
        · exact absurd r q
      obtain ⟨v', c1, c2, c3⟩ := ih (l + 1) v (by omega) (by omega) hv (m_is_congr hi (fun x => m_P_congr (fun E => (m_rl_no (by rw [hrb]; exact q')).symm)))
      refine ⟨v', ?_, c2, c3⟩
      rw [← c1]
      simp (disch := omega) only [z_w_id, if_neg, if_pos, n_bit, q', reduceIte, Bool.false_eq_true, y_E_119_91, e1]
      try rfl
theorem m_rl_12 {E : List (Nat × Nat)} (hin : ∀ j, T.testBit j = true → j < 12) : m_rl lw (m_kd lw L) (n_low T) (n_pop T - 2) (w_rm T (n_low T)) 12 E ↔ m_RD lw L T E := by
  constructor
  · rintro ⟨h, E', _, h2⟩; exact ⟨h, E', h2⟩
  · rintro ⟨h, E', h2, h3⟩
    exact ⟨h, E', hin h (by rw [w_rm_bit, Bool.and_eq_true] at h2; exact h2.1), h2, h3⟩
theorem s_119a (hT : T < 4096) (hp : n_pop T < 3) : y_V sp ph (d + 3) 119 [y_bo 2 0 8, y_bo 0 0 b, y_bi (T : Int)] m = y_rL m_F m := by
  have s1 := s_1 (sp := sp) (ph := ph) (d := d + 1) (m := m) hT
  simp (disch := omega) only [y_C_119, y_E_119_0, s1, e_bI, z_w_id, if_neg]
  try rfl
theorem s_119 (hQ : m_Q m b L R A B lw) (hT : T < 4096) (hp : 3 ≤ n_pop T) (hin : ∀ j, T.testBit j = true → j < L + R) (hc : m_ct m what L R A B lw 144) (he : m_ce m what L R A B lw T) : ∃ v, y_V sp ph (d + 3) 119 [y_bo 2 0 8, y_bo 0 0 b, y_bi (T : Int)] m = y_rL v m ∧ m_rg v ∧ m_is v (m_P what L A B (m_RD lw L T)) := by
  have hT0 : 0 < T := by
    rcases Nat.eq_zero_or_pos T with q | q
    · rw [q, show n_pop 0 = 0 from by decide] at hp; omega
    · exact q
  have lo := w_low hT hT0
  have hpl := n_pop_le hT
  have hB := hQ.1
  obtain ⟨w1, w2, _⟩ := hB
  have s1 := s_1 (sp := sp) (ph := ph) (d := d + 1) (m := m) hT
  have s0 := s_0 (sp := sp) (ph := ph) (d := d + 1) (m := m) hT hT0
  obtain ⟨v', c1, c2, c3⟩ := l_119 (sp := sp) (ph := ph) (d := d) hQ hT hp hin hc he (12 - (n_low T + 1)) (n_low T + 1) m_F (by omega) (by omega) (Or.inl rfl) (m_is_none (by
    rintro x ⟨E, ⟨h, E', g1, g2, _⟩, _⟩
    rw [w_rm_bit, Bool.and_eq_true] at g2
    have := of_decide_eq_true g2.2
    rw [lo.2.2.2 h (by omega) (by omega)] at g2
    exact absurd g2.1 (by decide)))
  refine ⟨v', ?_, c2, m_is_congr c3 (fun x => m_P_congr (fun E => m_rl_12 (fun j hj => by have := hin j hj; omega)))⟩
  have e1 : (n_low T : Int) + 1 = ((n_low T + 1 : Nat) : Int) := by omega
  simp (disch := omega) only [y_C_119, y_E_119_0, y_E_119_14, s1, s0, e_bI, z_w_id, if_pos, e1]
  exact c1
/-- what a tour is -/
def m_tv (L A B lw W T : Nat) (v : Int) : Prop := ((∀ j, T.testBit j = true → W.testBit j = true) → 3 ≤ n_pop T → m_is v (m_P 0 L A B (m_RD lw L T))) ∧ (¬ ((∀ j, T.testBit j = true → W.testBit j = true) ∧ 3 ≤ n_pop T) → v = m_F)
def m_Fi (m : y_m) (L R A B lw W : Nat) : Prop := m_Sv m L R A B lw ∧ (y_mI m 8 4 = 0 ∨ (y_mI m 8 4 = 1 ∧ ∀ T, T < 4096 → m_tv L A B lw W T (y_mJ m 10 T)))
theorem l_109 (hW : W < 4096) (hin : ∀ j, W.testBit j = true → j < L + R) : ∀ (n T : Nat) (m : y_m), T + n = 4096 → m_Q m b L R A B lw → m_ct m 0 L R A B lw 144 → (∀ S, (∀ j, S.testBit j = true → W.testBit j = true) → m_ce m 0 L R A B lw S) → (∀ S, S < T → m_tv L A B lw W S (y_mJ m 10 S)) → ∃ m', y_R sp ph (d + 4) 109 24 [some (y_bo 2 0 8), some (y_bo 0 0 b), none, some (y_bi (W : Int)), some (y_bi (T : Int))] [] m = y_rV (y_sI m' 8 4 1) ∧ q_F (fun a _ => a = 10) m m' ∧ (∀ S, S < 4096 → m_tv L A B lw W S (y_mJ m' 10 S)) := by
  intro n
  induction n with
  | zero =>
    intro T m hn hQ hc he ht
    refine ⟨m, ?_, q_F_refl, fun S hS => ht S (by omega)⟩
    rw [y_E_109_24]
    simp (disch := omega) only [z_w_id, if_pos, y_E_109_69]
  | succ n ih =>
    intro T m hn hQ hc he ht
    have e1 : (T : Int) + 1 = ((T + 1 : Nat) : Int) := by omega
    have hb0 := n_bd_le T W
    have s10 := fun v => s_10 (sp := sp) (ph := ph) (d := d + 3) (m := m) (n := 4096) (a := 10) (x := (T : Int)) (v := v) (by omega) (by omega) (by omega)
    have step : ∀ v, m_tv L A B lw W T v → ∃ m', y_R sp ph (d + 4) 109 24 [some (y_bo 2 0 8), some (y_bo 0 0 b), none, some (y_bi (W : Int)), some (y_bi ((T + 1 : Nat) : Int))] [] (y_sJ m 10 T v) = y_rV (y_sI m' 8 4 1) ∧ q_F (fun a _ => a = 10) m m' ∧ (∀ S, S < 4096 → m_tv L A B lw W S (y_mJ m' 10 S)) := by
      intro v hv
      have F : q_F (fun a _ => a = 10) m (y_sJ m 10 T v) := q_F_sJ rfl
      obtain ⟨m2, c1, c2, c3⟩ := ih (T + 1) _ (by omega) (m_Q_F hQ F (fun a k h => by have := hQ.2.2.2.2.2.2.2; omega)) (m_ct_F hc F (fun a k h => by omega)) (fun S hS => m_ce_F (he S hS) F (fun k hk => by omega)) (fun S hS => by
        by_cases e : S = T
        · subst e; rw [e_JJ]; exact hv
        · rw [e_JJ' (by omega)]; exact ht S (by omega))
      exact ⟨m2, c1, q_F_trans F c2, c3⟩
    rw [y_E_109_24]
    by_cases q : n_bd T W = 0
    · have hsub := n_bd_0.mp q
      by_cases p : 3 ≤ n_pop T
      · obtain ⟨v, v1, v2, v3⟩ := s_119 (sp := sp) (ph := ph) (d := d + 1) hQ (show T < 4096 by omega) p (fun j hj => hin j (hsub j hj)) hc (he T hsub)
        obtain ⟨m2, c1, c2⟩ := step v ⟨fun _ _ => v3, fun r => absurd ⟨hsub, p⟩ r⟩
        refine ⟨m2, ?_, c2⟩
        rw [← c1]
        simp (disch := omega) only [z_w_id, if_neg, n_not, q, v1, e_bL, y_E_109_60, s10, e_bV, e1, Int.toNat_natCast, not_true_eq_false, reduceIte]
        try rfl
      · have v1 := s_119a (sp := sp) (ph := ph) (d := d + 1) (m := m) (b := b) (show T < 4096 by omega) (by omega)
        obtain ⟨m2, c1, c2⟩ := step m_F ⟨fun _ r => absurd r p, fun _ => rfl⟩
        refine ⟨m2, ?_, c2⟩
        rw [← c1]
        simp (disch := omega) only [z_w_id, if_neg, n_not, q, v1, e_bL, y_E_109_60, s10, e_bV, e1, Int.toNat_natCast, not_true_eq_false, reduceIte]
        try rfl
    · obtain ⟨m2, c1, c2⟩ := step m_F ⟨fun r => absurd (n_bd_0.mpr r) q, fun _ => rfl⟩
      refine ⟨m2, ?_, c2⟩
      rw [← c1]
      have s10' := s10 9223372036854775807
      simp (disch := omega) only [z_w_id, if_neg, if_pos, n_not, y_E_109_57, y_E_109_60, s10', e_bV, e1, Int.toNat_natCast]
      try rfl
def m_Fq (a k : Nat) : Prop := m_Fp a k ∨ (a = 8 ∧ k = 4) ∨ a = 10
theorem m_Sv_F {P : Nat → Nat → Prop} {m m' : y_m} (h : m_Sv m L R A B lw) (hF : q_F P m m') (hP : ∀ a k, P a k → ¬ (a = 8 ∧ (k = 5 ∨ k = 6)) ∧ a ≠ 9 ∧ a ≠ 11 ∧ a ≠ 12) : m_Sv m' L R A B lw := by
  have e6 : y_mI m' 8 6 = y_mI m 8 6 := q_F_I hF 8 6 (fun q => (hP _ _ q).1 ⟨rfl, Or.inr rfl⟩)
  have e5 : y_mI m' 8 5 = y_mI m 8 5 := q_F_I hF 8 5 (fun q => (hP _ _ q).1 ⟨rfl, Or.inl rfl⟩)
  rcases h with q | ⟨what, H, h1, h2, h3, h4, h5, h6, h7⟩
  · exact Or.inl (by rw [e6]; exact q)
  · exact Or.inr ⟨what, H, h1, h2, h3, by rw [e6]; exact h4, by rw [e5]; exact h5, m_ct_F h6 hF (fun a k q => (hP a k q).2.2), fun T hT => m_ce_F (h7 T hT) hF (fun k q => absurd rfl (hP _ _ q).2.1)⟩
theorem s_109 {t : Nat} (hQ : m_Q m b L R A B lw) (ht : y_mI m b 4 = (t : Int)) (ht' : t < 4096) (hFi : m_Fi m L R A B lw (c_wh L R t)) : ∃ m', y_V sp ph (d + 6) 109 [y_bo 2 0 8, y_bo 0 0 b, y_bo 4 0 3] m = y_rV m' ∧ q_F m_Fq m m' ∧ m_Sv m' L R A B lw ∧ y_mI m' 8 4 = 1 ∧ ∀ T, T < 4096 → m_tv L A B lw (c_wh L R t) T (y_mJ m' 10 T) := by
  obtain ⟨hS, hf⟩ := hFi
  have hB := hQ.1
  rcases hf with q | ⟨q1, q2⟩
  · have s41 := s_41 (sp := sp) (ph := ph) (d := d + 3) (m := m) (a := b) hQ.2.2.1 hQ.2.2.2.1 ht hB.1 hB.2.1 ht'
    have hwl := c_wh_lt (t := t) hB.1 hB.2.1
    obtain ⟨m1, a1, a2, a3, a4, a5, a6⟩ := s_108 (sp := sp) (ph := ph) (d := d) (what := 0) hwl (fun j hj => c_wh_in hj) (by omega) hQ hS
    obtain ⟨m2, b1, b2, b3⟩ := l_109 (sp := sp) (ph := ph) (d := d + 1) hwl (fun j hj => c_wh_in hj) 4096 0 m1 (by omega) a3 a4 a5 (fun S hS => absurd hS (Nat.not_lt_zero _))
    have F3 : q_F (fun a k => a = 8 ∧ k = 4) m2 (y_sI m2 8 4 1) := q_F_sI ⟨rfl, rfl⟩
    refine ⟨y_sI m2 8 4 1, ?_, q_F_trans (q_F_mono a2 (fun a k h => Or.inl h)) (q_F_trans (q_F_mono b2 (fun a k h => Or.inr (Or.inr h))) (q_F_mono F3 (fun a k h => Or.inr (Or.inl h)))), m_Sv_F (m_Sv_F a6 b2 (fun a k h => by omega)) F3 (fun a k h => by omega), e_II, fun T hT => b3 T hT⟩
    have a1' : y_V sp ph (d + 5) 108 [y_bo 2 0 8, y_bo 0 0 b, y_bo 4 0 3, y_bi (n_bd (2 ^ (L + R) - 1) t : Int), y_bi 0] m = _ := a1
    have b1' : y_R sp ph (d + 5) 109 24 [some (y_bo 2 0 8), some (y_bo 0 0 b), none, some (y_bi (n_bd (2 ^ (L + R) - 1) t : Int)), some (y_bi 0)] [] m1 = _ := b1
    rw [y_C_109, y_E_109_0, q, if_pos (by decide), y_E_109_8, s41, e_bI, a1', e_bV, b1']
  · refine ⟨m, ?_, q_F_refl, hS, q1, q2⟩
    rw [y_C_109, y_E_109_0, q1, if_neg (by decide)]
theorem s_110 (hT : T < 4096) : y_V sp ph (d + 2) 110 [y_bo 2 0 8, y_bi (T : Int)] m = y_rL (y_mJ m 10 T) m := by
  have s9 := s_9 (sp := sp) (ph := ph) (d := d) (m := m) (n := 4096) (a := 10) (x := (T : Int)) (by omega) (by omega) (by omega)
  rw [Int.toNat_natCast] at s9
  simp (disch := omega) only [y_C_110, y_E_110_0, y_E_110_25, z_w_id, if_neg, s9, e_bL]
end Solve
