/-! ===== two laces ===== -/
section Two
variable {sp : Nat → Nat} {ph : Bool} {d : Nat} {m : y_m} {L R A B t lw X T W c : Nat} {w : List Nat}
theorem m_rx_V {E : List (Nat × Nat)} (hT : T < 4096) (h3 : 3 ≤ n_pop T) (g : m_rx lw L T E) : ∀ e ∈ E, T.testBit e.1 = true ∧ T.testBit e.2 = true := by
  have hT0 : 0 < T := by
    rcases Nat.eq_zero_or_pos T with q | q
    · rw [q, show n_pop 0 = 0 from by decide] at h3; omega
    · exact q
  have lo := w_low hT hT0
  have bd : ∀ x, T.testBit x = true → x < 12 := fun x hx => by
    rcases Nat.lt_or_ge x 12 with q | q
    · exact q
    · rw [Nat.testBit_lt_two_pow (Nat.lt_of_lt_of_le hT (Nat.pow_le_pow_right (n := 2) (by decide) q))] at hx; cases hx
  obtain ⟨h, E', h1, h2, rfl⟩ := g
  rw [w_rm_bit, Bool.and_eq_true] at h1
  have hne := of_decide_eq_true h1.2
  have ok := m_h_ok (n := 12) lo.2.1 _ h _ _ _ E' (bd h h1.1) hne (by rw [w_rm_bit]; simp) (by rw [w_rm_bit, w_rm_bit]; simp) (fun x hx => by
    rw [w_rm_bit, w_rm_bit, Bool.and_eq_true, Bool.and_eq_true] at hx
    exact bd x hx.1.1) h2
  have V : ∀ x, m_V (n_low T) h (w_rm (w_rm T (n_low T)) h) x → T.testBit x = true := by
    rintro x (q | q | q)
    · rw [q]; exact h1.1
    · rw [w_rm_bit, w_rm_bit, Bool.and_eq_true, Bool.and_eq_true] at q; exact q.1.1
    · rw [q]; exact lo.2.2.1
  intro e he
  rcases List.mem_cons.mp he with rfl | he
  · refine ⟨?_, ?_⟩
    · rcases w_e_fst (n_low T) h with q | q <;> rw [q]
      · exact lo.2.2.1
      · exact h1.1
    · rcases w_e_snd (n_low T) h with q | q <;> rw [q]
      · exact lo.2.2.1
      · exact h1.1
  · exact ⟨V _ (ok.2.2.2 e he).1, V _ (ok.2.2.2 e he).2⟩
theorem n_pop_bd (hW : W < 4096) (hc : ∀ j, c.testBit j = true → W.testBit j = true) : n_pop c + n_pop (n_bd W c) = n_pop W := by
  have hc4 : c < 4096 := by have := m_sub_le hc; omega
  have hb := n_bd_le W c
  have e1 := n_pop_eq c hc4
  have e2 := n_pop_eq (n_bd W c) (by omega)
  have e3 := n_pop_eq W hW
  have e : q_S (fun k => n_b (W.testBit k)) 0 12 = q_S (fun k => n_b (c.testBit k)) 0 12 + q_S (fun k => n_b ((n_bd W c).testBit k)) 0 12 := by
    rw [← q_S_add]
    refine q_S_congr _ _ (fun j _ _ => ?_)
    show n_b (W.testBit j) = n_b (c.testBit j) + n_b ((n_bd W c).testBit j)
    rw [n_bd_bit]
    cases q : c.testBit j
    · cases W.testBit j <;> rfl
    · rw [hc j q]; rfl
  omega
theorem w_code_app {E : List (Nat × Nat)} : ∀ {D : List (Nat × Nat)}, w_code L A B (D ++ E) = w_code L A B D + w_code L A B E
  | [] => by show w_code L A B E = 0 + _; omega
  | e :: D => by rw [List.cons_append, w_code, w_code, w_code_app]; omega
def m_p2 (lw L W c : Nat) (E : List (Nat × Nat)) : Prop := ∃ E1 E2, m_hx lw L W c E1 ∧ m_hx lw L W (n_bd W c) E2 ∧ E = E1 ++ E2
def m_s2 (tr : Nat → Int) (W c : Nat) : Int := if tr c = m_F ∨ tr (n_bd W c) = m_F then m_F else tr c + tr (n_bd W c)
def m_r2 (hm : Nat → Int) (W c : Nat) : Int := if hm c = -1 ∨ hm (n_bd W c) = -1 then -1 else hm c + hm (n_bd W c)
theorem m_p2_E {E : List (Nat × Nat)} (hW : W < 4096) (hin : ∀ j, W.testBit j = true → j < L + R) (hc : ∀ j, c.testBit j = true → W.testBit j = true) (g : m_p2 lw L W c E) : m_E L R E ∧ E.length ≤ 12 := by
  obtain ⟨E1, E2, g1, g2, rfl⟩ := g
  have hc4 : c < 4096 := by have := m_sub_le hc; omega
  have hb := n_bd_le W c
  have a1 := m_hx_E hW hin g1
  have a2 := m_hx_E hW hin g2
  have v1 := m_rx_V hc4 g1.2.1 g1.2.2
  have v2 := m_rx_V (by omega) g2.2.1 g2.2.2
  have hp := n_pop_bd hW hc
  have hpl := n_pop_le hW
  have hlen : (E1 ++ E2).length ≤ 12 := by rw [List.length_append, a1.2, a2.2]; omega
  refine ⟨⟨⟨List.nodup_append.mpr ⟨a1.1.1.1, a2.1.1.1, fun e he e' he' q => ?_⟩, fun e he => ?_⟩, by omega⟩, hlen⟩
  · subst q
    have x1 := (v1 e he).1
    have x2 := (v2 e he').1
    rw [n_bd_bit, x1] at x2; simp at x2
  · rcases List.mem_append.mp he with q | q
    · exact a1.1.1.2 e q
    · exact a2.1.1.2 e q
theorem m_s2_is {tr : Nat → Int} (hB : m_B L R A B) (hW : W < 4096) (hin : ∀ j, W.testBit j = true → j < L + R) (hc4 : c < 4096) (h : ∀ T, T < 4096 → m_is (tr T) (m_P 0 L A B (m_hx lw L W T))) : m_is (m_s2 tr W c) (m_P 0 L A B (m_p2 lw L W c)) ∧ (m_s2 tr W c ≠ m_F → 0 ≤ m_s2 tr W c ∧ m_s2 tr W c ≤ 8000000000000000000) := by
  have hb := n_bd_le W c
  have i1 := h c hc4
  have i2 := h (n_bd W c) (by omega)
  unfold m_s2
  by_cases q : tr c = m_F ∨ tr (n_bd W c) = m_F
  · rw [if_pos q]
    refine ⟨m_is_none (fun x hx => ?_), fun r => absurd rfl r⟩
    obtain ⟨E, ⟨E1, E2, g1, g2, _⟩, _⟩ := hx
    rcases q with q | q
    · exact (m_is_F i1).mp q _ ⟨E1, g1, rfl⟩
    · exact (m_is_F i2).mp q _ ⟨E2, g2, rfl⟩
  · rw [if_neg q]
    have q1 : tr c ≠ m_F := fun r => q (Or.inl r)
    have q2 : tr (n_bd W c) ≠ m_F := fun r => q (Or.inr r)
    have b1 := m_is_low hB hW hin i1 q1
    have b2 := m_is_low hB hW hin i2 q2
    obtain ⟨E1, e1, f1⟩ := m_is_mem i1 q1
    obtain ⟨E2, e2, f2⟩ := m_is_mem i2 q2
    refine ⟨Or.inr ⟨⟨E1 ++ E2, ⟨E1, E2, e1, e2, rfl⟩, by rw [m_S_app, f1, f2]⟩, by unfold m_F; omega, ?_⟩, fun _ => by omega⟩
    rintro x ⟨E, ⟨G1, G2, g1, g2, rfl⟩, rfl⟩
    have k1 := m_is_le i1 ⟨G1, g1, rfl⟩
    have k2 := m_is_le i2 ⟨G2, g2, rfl⟩
    rw [m_S_app]; omega
theorem m_r2_rf {hm : Nat → Int} (hB : m_B L R A B) (hW : W < 4096) (hin : ∀ j, W.testBit j = true → j < L + R) (hc : ∀ j, c.testBit j = true → W.testBit j = true) (h : ∀ T, T < 4096 → m_rf 0 L A B (hm T) (m_hx lw L W T)) : m_rf 0 L A B (m_r2 hm W c) (m_p2 lw L W c) := by
  have hc4 : c < 4096 := by have := m_sub_le hc; omega
  have hb := n_bd_le W c
  have i1 := h c hc4
  have i2 := h (n_bd W c) (by omega)
  unfold m_r2
  by_cases q : hm c = -1 ∨ hm (n_bd W c) = -1
  · rw [if_pos q]
    refine m_rf_none (fun E g => ?_)
    obtain ⟨E1, E2, g1, g2, _⟩ := g
    rcases q with q | q
    · exact (m_rf_F i1).mp q _ g1
    · exact (m_rf_F i2).mp q _ g2
  · rw [if_neg q]
    rcases i1 with ⟨r, _⟩ | ⟨E1, e1, f1, k1⟩
    · exact absurd (Or.inl r) q
    rcases i2 with ⟨r, _⟩ | ⟨E2, e2, f2, k2⟩
    · exact absurd (Or.inr r) q
    have hP : m_p2 lw L W c (E1 ++ E2) := ⟨E1, E2, e1, e2, rfl⟩
    refine Or.inr ⟨E1 ++ E2, hP, by rw [w_code_app, f1, f2]; omega, ?_⟩
    rintro G ⟨G1, G2, g1, g2, rfl⟩
    have a1 := k1 G1 g1
    have a2 := k2 G2 g2
    have gap := m_gap (what := 0) hB (m_p2_E hW hin hc hP).1 (m_p2_E hW hin hc ⟨G1, G2, g1, g2, rfl⟩).1
    rw [m_S_app, m_S_app] at *
    omega
/-- two numbers and two rows set against each other -/
theorem m_cmp2 {P Q : List (Nat × Nat) → Prop} {v v' M M' : Int} (hB : m_B L R A B) (hP : ∀ E, P E → m_E L R E) (hQ : ∀ E, Q E → m_E L R E) (h : m_rf 0 L A B v P) (g : m_is M (m_P 0 L A B P)) (h' : m_rf 0 L A B v' Q) (g' : m_is M' (m_P 0 L A B Q)) (hv : v ≠ -1) (hv' : v' ≠ -1) : q_bt A B 0 v.toNat v'.toNat = decide (M + 64 < M') := by
  rcases m_near h g with ⟨n1, n2⟩ | ⟨E, F, e1, e2, e3, e4, e5, e6, e7, e8⟩
  · exact absurd n1 hv
  rcases m_near h' g' with ⟨n1, n2⟩ | ⟨E', F', f1, f2, f3, f4, f5, f6, f7, f8⟩
  · exact absurd n1 hv'
  rw [e2, f2, Int.toNat_natCast, Int.toNat_natCast, m_better hB (hP E e1) (hQ E' f1) (by omega)]
  have g1 := m_gap (what := 0) hB (hP E e1) (hQ E' f1)
  have g2 := m_gap (what := 0) hB (hP F e3) (hQ F' f3)
  refine decide_eq_decide.mpr ?_
  omega
theorem s_175 (hU : u_C m L R A B t lw X w) (hc : c < 4096) (hM : ∀ T, T < 4096 → m_is (y_mJ m 10 T) (m_P 0 L A B (m_hx lw L (c_wh L R t) T))) : y_V sp ph (d + 3) 175 [y_bo 10 0 0, y_bi (c : Int)] m = y_rL (m_s2 (y_mJ m 10) (c_wh L R t) c) m := by
  have hK := hU.1
  have hB := hU.2.2.1.1
  have hWl := c_wh_lt (t := t) hB.1 hB.2.1
  have hb := n_bd_le (c_wh L R t) c
  have s41 := s_41 (sp := sp) (ph := ph) (d := d) (m := m) (a := y_mc m) hK.eL hK.eR hK.et hK.l6 hK.r6 hK.t4
  have s41' : y_V sp ph (d + 2) 41 [y_bo 0 0 (y_mc m)] m = y_rI (c_wh L R t : Int) m := s41
  have s110a := s_110 (sp := sp) (ph := ph) (d := d) (m := m) hc
  have s110b := s_110 (sp := sp) (ph := ph) (d := d) (m := m) (T := n_bd (c_wh L R t) c) (by omega)
  have en : z_iand (c_wh L R t : Int) (z_ixor (c : Int) (-1)) = ((n_bd (c_wh L R t) c : Nat) : Int) := n_not (by omega) (by omega)
  have lcT : ∀ T, T < 4096 → (z_w (z_lcmp (y_mJ m 10 T) 9223372036854775807) = 0) = (y_mJ m 10 T = m_F) := fun T hT => m_is_lc (by
    by_cases q : y_mJ m 10 T = m_F
    · exact Or.inl q
    · have := m_is_low hB hWl (fun j hj => c_wh_in hj) (hM T hT) q
      exact Or.inr (by omega))
  have l1 := lcT c hc
  have l2 := lcT (n_bd (c_wh L R t) c) (by omega)
  rw [y_C_175, y_E_175_0, s110a, e_bL, s41', e_bI, en, s110b, e_bL]
  unfold m_s2
  by_cases q1 : y_mJ m 10 c = m_F
  · rw [if_pos (by rw [l1]; exact q1), if_pos (Or.inl q1), y_E_175_46, y_E_175_56]; rfl
  · rw [if_neg (by rw [l1]; exact q1)]
    by_cases q2 : y_mJ m 10 (n_bd (c_wh L R t) c) = m_F
    · rw [if_neg (by rw [l2]; exact fun r => r q2), if_pos (Or.inr q2), y_E_175_46, y_E_175_56]; rfl
    · rw [if_pos (by rw [l2]; exact q2), if_neg (fun r => r.elim q1 q2), y_E_175_52, y_E_175_56]
def c_sb (L R t : Nat) (x : Int) : Prop := 0 ≤ x ∧ n_bd x.toNat (c_wh L R t) = 0
def m_tw (M : Int) : Int := if M = m_F then -1 else (M + 64) * 1000 / 281474976710656
theorem s_154b {x : Int} (hU : u_C m L R A B t lw X w) (h0 : -2147483648 ≤ x) (h1 : x < 2147483648) (hx : ¬ c_sb L R t x) : y_V sp true (d + 3) 154 [y_bo 10 0 0, y_bi x] m = some (.inr 0, y_tm m) := by
  have hK := hU.1
  have hB := hU.2.2.1.1
  have hWl := c_wh_lt (t := t) hB.1 hB.2.1
  have s41 := s_41 (sp := sp) (ph := true) (d := d) (m := m) (a := y_mc m) hK.eL hK.eR hK.et hK.l6 hK.r6 hK.t4
  have s41' : y_V sp true (d + 2) 41 [y_bo 0 0 (y_mc m)] m = y_rI (c_wh L R t : Int) m := s41
  rw [y_C_154, y_E_154_0, s41', e_bI]
  by_cases q : 0 ≤ x
  · obtain ⟨n, hn⟩ : ∃ n : Nat, x = n := ⟨x.toNat, by omega⟩
    subst hn
    have en : z_iand (n : Int) (z_ixor (c_wh L R t : Int) (-1)) = ((n_bd n (c_wh L R t) : Nat) : Int) := n_not (by omega) (by omega)
    have hb := n_bd_le n (c_wh L R t)
    have hz : n_bd n (c_wh L R t) ≠ 0 := fun e => hx ⟨q, by rw [Int.toNat_natCast]; exact e⟩
    rw [en, if_neg (by rw [z_w_id (by omega) (by omega)]; omega)]; rfl
  · have ng := n_neg (b := c_wh L R t) h0 (by omega) (by omega)
    have nr : -2147483648 ≤ z_iand x (z_ixor (c_wh L R t : Int) (-1)) := (n_t32 _).1
    rw [if_neg (by rw [z_w_id (by omega) (by omega)]; omega)]; rfl
theorem s_154 {x : Int} (hU : u_C m L R A B t lw X w) (h0 : -2147483648 ≤ x) (h1 : x < 2147483648) (hx : c_sb L R t x) : ∃ tr m', (∀ T, T < 4096 → m_is (tr T) (m_P 0 L A B (m_hx lw L (c_wh L R t) T))) ∧ y_V sp ph (d + 7) 154 [y_bo 10 0 0, y_bi x] m = y_rI (m_tw (m_s2 tr (c_wh L R t) x.toNat)) m' ∧ q_F m_Fq m m' ∧ u_C m' L R A B t lw X w := by
  have hK := hU.1
  have hB := hU.2.2.1.1
  have hWl := c_wh_lt (t := t) hB.1 hB.2.1
  have s41 := s_41 (sp := sp) (ph := ph) (d := d + 4) (m := m) (a := y_mc m) hK.eL hK.eR hK.et hK.l6 hK.r6 hK.t4
  have s41' : y_V sp ph (d + 6) 41 [y_bo 0 0 (y_mc m)] m = y_rI (c_wh L R t : Int) m := s41
  have hlt := c_rd_lt hB.1 hB.2.1 hx.2
  obtain ⟨n, hn⟩ : ∃ n : Nat, x = n := ⟨x.toNat, by have := hx.1; omega⟩
  subst hn
  obtain ⟨m1, a1, a2, a3, a4⟩ := u_109 (sp := sp) (ph := ph) (d := d) hU
  have hz := hx.2
  rw [Int.toNat_natCast] at *
  have en : z_iand (n : Int) (z_ixor (c_wh L R t : Int) (-1)) = ((n_bd n (c_wh L R t) : Nat) : Int) := n_not (by omega) (by omega)
  have s175 := s_175 (sp := sp) (ph := ph) (d := d + 3) (m := m1) a3 hlt a4
  have i2 := m_s2_is hB hWl (fun j hj => c_wh_in hj) hlt a4
  refine ⟨y_mJ m1 10, m1, a4, ?_, a2, a3⟩
  rw [y_C_154, y_E_154_0, s41', e_bI, en, hz, if_pos (by decide), y_E_154_25, a1, e_bV, s175, e_bL]
  generalize m_s2 (y_mJ m1 10) (c_wh L R t) n = M at *
  unfold m_tw
  have lc : (z_w (z_lcmp M 9223372036854775807) = 0) = (M = m_F) := by
    by_cases q : M = m_F
    · rw [q]; exact propext ⟨fun _ => rfl, fun _ => by decide⟩
    · have := i2.2 q
      exact n_lc_eq (by omega) (by omega) (by omega) (by omega)
  by_cases q : M = m_F
  · rw [if_neg (by rw [lc]; exact fun r => r q), if_pos q, y_E_154_62]
  · have := i2.2 q
    obtain ⟨E, e1, e2⟩ := m_is_mem i2.1 q
    have hE := m_p2_E hWl (fun j hj => c_wh_in hj) (n_bd_0.mp hz) e1
    have hbd := m_S_b (what := 0) hB (w_okb hE.1.1)
    have s58 := s_58 (sp := sp) (ph := ph) (d := d + 5) (m := m1) (x := M) (by omega) (by omega)
    rw [if_pos (by rw [lc]; exact q), if_neg q, y_E_154_58, s58, e_bI, y_E_154_62]
end Two
