/-! ===== the class's finder: the first of the least rounds ===== -/
def m_bg : Option (Bool × Bool) → Bool → Bool
  | none, k => k
  | some p, _ => p.2
def m_am (lw : Nat) : Option (Bool × Bool) → Bool → Prop
  | none, _ => True
  | some p, k => r_may lw p.1 k = true
def m_aI : Option (Bool × Bool) → Int
  | none => -1
  | some p => n_b p.1
def m_bI : Option (Bool × Bool) → Int
  | none => -1
  | some p => n_b p.2
/-- a hole by which a round can still be one of the least -/
def m_okh (what L A B lw : Nat) (kd : Nat → Nat → Bool) (s : Nat) (M : Int) (f : Nat) (md : Option (Bool × Bool)) (last rest : Nat) (pre : Int) (h : Nat) : Prop := rest.testBit h = true ∧ m_am lw md (kd last h) ∧ ∃ E, m_h lw kd s f h (kd last h) (w_rm rest h) (m_bg md (kd last h)) E ∧ pre + m_w what L A B (w_e last h) + m_S what L A B E ≤ M + 64
def m_gr (what L A B lw : Nat) (kd : Nat → Nat → Bool) (s : Nat) (M : Int) : Nat → Option (Bool × Bool) → Nat → Nat → Int → List Nat → Prop
  | 0, _, _, _, _, u => u = []
  | f + 1, md, last, rest, pre, u => ∃ h u', u = h :: u' ∧ m_okh what L A B lw kd s M f md last rest pre h ∧ (∀ h', h' < h → ¬ m_okh what L A B lw kd s M f md last rest pre h') ∧ m_gr what L A B lw kd s M f (some (kd last h, m_bg md (kd last h))) h (w_rm rest h) (pre + m_w what L A B (w_e last h)) u'
theorem m_gr_uni {what L A B lw s : Nat} {kd : Nat → Nat → Bool} {M : Int} : ∀ (f : Nat) (md : Option (Bool × Bool)) (last rest : Nat) (pre : Int) (u v : List Nat), m_gr what L A B lw kd s M f md last rest pre u → m_gr what L A B lw kd s M f md last rest pre v → u = v
  | 0, _, _, _, _, u, v, h, g => by rw [show u = [] from h, show v = [] from g]
  | f + 1, md, last, rest, pre, u, v, h, g => by
    obtain ⟨x, u', rfl, h1, h2, h3⟩ := h
    obtain ⟨y, v', rfl, g1, g2, g3⟩ := g
    have e : x = y := by
      rcases Nat.lt_trichotomy x y with q | q | q
      · exact absurd h1 (g2 x q)
      · exact q
      · exact absurd g1 (h2 y q)
    subst e
    rw [m_gr_uni f _ _ _ _ u' v' h3 g3]
/-- without a law the kinds of spans are all one -/
theorem m_gr_k0 {what L A B s : Nat} {kd kd' : Nat → Nat → Bool} {M : Int} : ∀ (f : Nat) (md md' : Option (Bool × Bool)) (last rest : Nat) (pre : Int) (u : List Nat), m_gr what L A B 0 kd s M f md last rest pre u → m_gr what L A B 0 kd' s M f md' last rest pre u
  | 0, _, _, _, _, _, u, h => h
  | f + 1, md, md', last, rest, pre, u, h => by
    have am : ∀ md k, m_am 0 md k := by
      intro md k; cases md
      · exact trivial
      · exact rfl
    have e : ∀ {kd kd' : Nat → Nat → Bool} {md md' : Option (Bool × Bool)} {h : Nat}, m_okh what L A B 0 kd s M f md last rest pre h → m_okh what L A B 0 kd' s M f md' last rest pre h := fun q => by
      obtain ⟨q1, q2, E, q3, q4⟩ := q
      exact ⟨q1, am _ _, E, m_h_0 _ _ _ _ _ _ _ _ q3, q4⟩
    obtain ⟨x, u', rfl, h1, h2, h3⟩ := h
    exact ⟨x, u', rfl, e h1, fun h' q r => h2 h' q (e r), m_gr_k0 f _ _ _ _ _ _ h3⟩
section Trace
variable {sp : Nat → Nat} {ph : Bool} {d : Nat} {m : y_m} {b L R A B lw what T hole a : Nat} {w : List Nat}
theorem s_113g {x y : Nat} (hx : x < 12) (hy : y < 12) : y_V sp ph (d + 2) 113 [y_bo 2 0 8, y_bi (x : Int), y_bi (y : Int)] m = y_rI (y_mI m 12 (x * 12 + y)) m := by
  have hxx : (x : Int) * 12 + (y : Int) = ((x * 12 + y : Nat) : Int) := by omega
  simp (disch := omega) only [y_C_113, y_E_113_0, hxx, s_7, e_bI, Int.toNat_natCast]
theorem l_121 {M pre : Int} {md : Option (Bool × Bool)} {last : Nat} (hQ : m_Q m b L R A B lw) (hT : T < 4096) (hin : ∀ j, T.testBit j = true → j < L + R) (hc : m_ct m what L R A B lw 144) (he : m_ce m what L R A B lw T) (hla : last < L + R) (hM : -4000000000000000000 ≤ M ∧ M ≤ 4000000000000000000) (hpre : -4000000000000000000 ≤ pre ∧ pre ≤ 4000000000000000000) : ∀ (n l : Nat), l + n = 12 → n_low T < l → ∃ r : Int, y_R sp ph (d + 2) 121 25 [some (y_bo 2 0 8), some (y_bo 0 0 b), some (y_bi (T : Int)), none, some (y_bi (m_aI md)), some (y_bi (m_bI md)), some (y_bl (M - pre)), none, none, some (y_bi (last : Int)), some (y_bi (l : Int)), none, none, none, none] [] m = y_rI r m ∧ ((r = -1 ∧ ∀ h, l ≤ h → ¬ m_okh what L A B lw (m_kd lw L) (n_low T) M (n_pop T - 2) md last (w_rm T (n_low T)) pre h) ∨ ∃ h : Nat, r = h ∧ l ≤ h ∧ m_okh what L A B lw (m_kd lw L) (n_low T) M (n_pop T - 2) md last (w_rm T (n_low T)) pre h ∧ ∀ h', l ≤ h' → h' < h → ¬ m_okh what L A B lw (m_kd lw L) (n_low T) M (n_pop T - 2) md last (w_rm T (n_low T)) pre h') := by
  have hB := hQ.1
  have hB' := hB
  obtain ⟨w1, w2, _⟩ := hB'
  have hlw := hQ.2.1
  have hw := hQ.2.2.2.2.1
  intro n
  induction n with
  | zero =>
    intro l hn hs
    have : l = 12 := by omega
    subst this
    refine ⟨-1, ?_, Or.inl ⟨rfl, fun h hh q => ?_⟩⟩
    · rw [y_E_121_25]
      simp (disch := omega) only [z_w_id, if_pos, y_E_121_142]
    · have q1 := q.1
      rw [w_rm_bit, Bool.and_eq_true] at q1
      have := hin h q1.1; omega
  | succ n ih =>
    intro l hn hs
    have e1 : (l : Int) + 1 = ((l + 1 : Nat) : Int) := by omega
    have hrb : (w_rm T (n_low T)).testBit l = T.testBit l := by rw [w_rm_bit, decide_eq_true (show l ≠ n_low T by omega), Bool.and_true]
    obtain ⟨r, r1, r2⟩ := ih (l + 1) (by omega) (by omega)
    have next : ¬ m_okh what L A B lw (m_kd lw L) (n_low T) M (n_pop T - 2) md last (w_rm T (n_low T)) pre l → ((r = -1 ∧ ∀ h, l ≤ h → ¬ m_okh what L A B lw (m_kd lw L) (n_low T) M (n_pop T - 2) md last (w_rm T (n_low T)) pre h) ∨ ∃ h : Nat, r = h ∧ l ≤ h ∧ m_okh what L A B lw (m_kd lw L) (n_low T) M (n_pop T - 2) md last (w_rm T (n_low T)) pre h ∧ ∀ h', l ≤ h' → h' < h → ¬ m_okh what L A B lw (m_kd lw L) (n_low T) M (n_pop T - 2) md last (w_rm T (n_low T)) pre h') := by
      intro hno
      have g : ∀ h, l ≤ h → h = l ∨ l + 1 ≤ h := fun h q => by omega
      rcases r2 with ⟨q1, q2⟩ | ⟨h, q1, q2, q3, q4⟩
      · refine Or.inl ⟨q1, fun h hh => ?_⟩
        rcases g h hh with rfl | q
        · exact hno
        · exact q2 h q
      · refine Or.inr ⟨h, q1, by omega, q3, fun h' hh hl => ?_⟩
        rcases g h' hh with rfl | q
        · exact hno
        · exact q4 h' q hl
    by_cases q : T.testBit l = true
    · have hll := hin l q
      have s113 := s_113 (sp := sp) (ph := ph) (d := d) hQ hc hla hll
      have s112 := s_112 (sp := sp) (ph := ph) (d := d) hQ hc hla hll
      have hcb := m_w_b (what := what) (e := w_e last l) hB (by rcases w_e_fst last l with q | q <;> rcases w_e_snd last l with r | r <;> rw [q, r] <;> omega)
      obtain ⟨y, y1, y2, y3⟩ := s_118 (sp := sp) (ph := ph) (d := d) (k := m_kd lw L last l) (bg := m_bg md (m_kd lw L last l)) hQ hT hin q (by omega) he
      have yr := m_bd_rg y2
      unfold m_rg at yr
      have ebr : (z_w (z_lcmp y 9223372036854775807) = 0) = (y = m_F) := n_lc_eq (by omega) (by unfold m_F at yr; omega) (by omega) (by omega)
      -- the rest behind the law
      have tail : m_am lw md (m_kd lw L last l) → ∃ r' : Int, y_R sp ph (d + 2) 121 100 [some (y_bo 2 0 8), some (y_bo 0 0 b), some (y_bi (T : Int)), none, some (y_bi (m_aI md)), some (y_bi (m_bI md)), some (y_bl (M - pre)), none, none, some (y_bi (last : Int)), some (y_bi (l : Int)), none, none, none, none] [y_bi (n_b (m_bg md (m_kd lw L last l))), y_bi (n_b (m_kd lw L last l)), y_bi (l : Int), y_bi (T : Int), y_bo 0 0 b, y_bo 2 0 8] m = y_rI r' m ∧ ((r' = -1 ∧ ∀ h, l ≤ h → ¬ m_okh what L A B lw (m_kd lw L) (n_low T) M (n_pop T - 2) md last (w_rm T (n_low T)) pre h) ∨ ∃ h : Nat, r' = h ∧ l ≤ h ∧ m_okh what L A B lw (m_kd lw L) (n_low T) M (n_pop T - 2) md last (w_rm T (n_low T)) pre h ∧ ∀ h', l ≤ h' → h' < h → ¬ m_okh what L A B lw (m_kd lw L) (n_low T) M (n_pop T - 2) md last (w_rm T (n_low T)) pre h') := by
        intro ham
        rw [y_E_121_100, y1, e_bL]
        by_cases z : y = m_F
        · refine ⟨r, ?_, next (fun qq => ?_)⟩
          · rw [if_pos (by rw [ebr]; exact z), y_E_121_136, e1]; exact r1
          · obtain ⟨_, _, E, q3, q4⟩ := qq
            exact (m_is_F y3).mp z _ ⟨E, q3, rfl⟩
        · have yb : -4000000000000000000 ≤ y ∧ y ≤ 4000000000000000000 := by
            rcases y2 with r | r
            · exact absurd r z
            · exact r
          rw [if_neg (by rw [ebr]; exact z), s112, e_bL, s_56 (by omega) (by omega) (by omega) (by omega), e_bI]
          by_cases c : M - pre + 64 < y + m_w what L A B (w_e last l)
          · refine ⟨r, ?_, next (fun qq => ?_)⟩
            · rw [decide_eq_true c, if_pos (by decide), y_E_121_136, e1]; exact r1
            · obtain ⟨_, _, E, q3, q4⟩ := qq
              have := m_is_le y3 ⟨E, q3, rfl⟩
              omega
          · refine ⟨l, ?_, Or.inr ⟨l, rfl, Nat.le_refl _, ⟨by rw [hrb]; exact q, ham, ?_⟩, fun h' h1 h2 => by omega⟩⟩
            · rw [decide_eq_false c, if_neg (by decide)]
            · obtain ⟨E, q3, q4⟩ := m_is_mem y3 z
              exact ⟨E, q3, by omega⟩
      rw [y_E_121_25, if_neg (by rw [z_w_id (by omega) (by omega)]; omega), s113, e_bI, n_bit (by omega) (by omega), if_pos q, if_neg (by decide)]
      cases md with
      | none =>
        obtain ⟨r', t1, t2⟩ := tail trivial
        refine ⟨r', ?_, t2⟩
        rw [← t1]
        show (if z_w (-1) = -1 then _ else _) = _
        rw [if_pos (by decide), y_E_121_68, y_E_121_73, if_neg (by decide)]
        show (if ¬ z_w (-1) = -1 then _ else _) = _
        rw [if_neg (by decide)]
        rfl
      | some p =>
        have np : ∀ x : Bool, ¬ z_w (n_b x) = -1 := by intro x; cases x <;> decide
        have s46 := s_46 (sp := sp) (ph := ph) (d := d + 1) (m := m) (a := b) (i := p.1) (o := m_kd lw L last l) hw hlw
        show ∃ r', (if z_w (n_b p.1) = -1 then _ else _) = _ ∧ _
        rw [if_neg (np _)]
        show ∃ r', (y_bI (y_V sp ph (d + 2) 46 [y_bo 0 0 b, y_bi (n_b p.1), y_bi (n_b (m_kd lw L last l))] m) _ _) = _ ∧ _
        rw [s46, e_bI]
        cases c : r_may lw p.1 (m_kd lw L last l)
        · refine ⟨r, ?_, next (fun qq => ?_)⟩
          · rw [if_pos (by decide), y_E_121_72, y_E_121_73, if_pos (by decide), y_E_121_136, e1]; exact r1
          · have this : r_may lw p.1 (m_kd lw L last l) = true := qq.2.1
            rw [c] at this; cases this
        · obtain ⟨r', t1, t2⟩ := tail c
          refine ⟨r', ?_, t2⟩
          rw [← t1, if_neg (by decide), y_E_121_68, y_E_121_73, if_neg (by decide)]
          show (if ¬ z_w (n_b p.2) = -1 then _ else _) = _
          rw [if_pos (np _), y_E_121_98]
          rfl
    · have q' : T.testBit l = false := by
        cases r : T.testBit l
        · rfl
        · exact absurd r q
      refine ⟨r, ?_, next (fun qq => ?_)⟩
      · have s113 := s_113g (sp := sp) (ph := ph) (d := d) (m := m) (x := last) (y := l) (by omega) (by omega)
        rw [y_E_121_25, if_neg (by rw [z_w_id (by omega) (by omega)]; omega), s113, e_bI, n_bit (by omega) (by omega), q', if_pos (by decide), y_E_121_72, y_E_121_73, if_pos (by decide), y_E_121_136, e1]
        exact r1
      · have := qq.1
        rw [hrb] at this; exact q this
theorem s_121 {M pre : Int} {md : Option (Bool × Bool)} {last : Nat} (hQ : m_Q m b L R A B lw) (hT : T < 4096) (hT0 : 0 < T) (hin : ∀ j, T.testBit j = true → j < L + R) (hc : m_ct m what L R A B lw 144) (he : m_ce m what L R A B lw T) (hW : q_W m a w) (hn : w ≠ []) (h0 : q_at w 0 = n_low T) (h1 : q_at w ((w.length : Int) - 1) = last) (hla : last < L + R) (hM : -4000000000000000000 ≤ M ∧ M ≤ 4000000000000000000) (hpre : -4000000000000000000 ≤ pre ∧ pre ≤ 4000000000000000000) (hex : ∃ h, m_okh what L A B lw (m_kd lw L) (n_low T) M (n_pop T - 2) md last (w_rm T (n_low T)) pre h) : ∃ h : Nat, y_V sp ph (d + 3) 121 [y_bo 2 0 8, y_bo 0 0 b, y_bi (T : Int), y_bo 8 0 a, y_bi (m_aI md), y_bi (m_bI md), y_bl (M - pre)] m = y_rI (h : Int) m ∧ m_okh what L A B lw (m_kd lw L) (n_low T) M (n_pop T - 2) md last (w_rm T (n_low T)) pre h ∧ ∀ h', h' < h → ¬ m_okh what L A B lw (m_kd lw L) (n_low T) M (n_pop T - 2) md last (w_rm T (n_low T)) pre h' := by
  have hB := hQ.1
  obtain ⟨w1, w2, _⟩ := hB
  have lo := w_low hT hT0
  have hlen := hW.2.1
  have hl1 := List.length_pos_iff.mpr hn
  have small : ∀ h, h < n_low T + 1 → ¬ m_okh what L A B lw (m_kd lw L) (n_low T) M (n_pop T - 2) md last (w_rm T (n_low T)) pre h := fun h hh q => by
    have q1 := q.1
    rw [w_rm_bit, Bool.and_eq_true] at q1
    have := of_decide_eq_true q1.2
    rw [lo.2.2.2 h (by omega) (by omega)] at q1
    exact absurd q1.1 (by decide)
  obtain ⟨r, r1, r2⟩ := l_121 (sp := sp) (ph := ph) (d := d) (md := md) hQ hT hin hc he hla hM hpre (12 - (n_low T + 1)) (n_low T + 1) (by omega) (by omega)
  have s65a := s_65 (sp := sp) (ph := ph) (d := d) (i := 0) hW hn (by omega) (by omega)
  have s65b := s_65 (sp := sp) (ph := ph) (d := d) (i := (w.length : Int) - 1) hW hn (by omega) (by omega)
  rw [h0] at s65a
  rw [h1] at s65b
  have e1 : (n_low T : Int) + 1 = ((n_low T + 1 : Nat) : Int) := by omega
  have run : y_V sp ph (d + 3) 121 [y_bo 2 0 8, y_bo 0 0 b, y_bi (T : Int), y_bo 8 0 a, y_bi (m_aI md), y_bi (m_bI md), y_bl (M - pre)] m = y_rI r m := by
    rw [y_C_121, y_E_121_0, s65a, e_bI, hW.1, s65b, e_bI, e1]
    exact r1
  rcases r2 with ⟨q1, q2⟩ | ⟨h, q1, q2, q3, q4⟩
  · obtain ⟨h, hh⟩ := hex
    rcases Nat.lt_or_ge h (n_low T + 1) with q | q
    · exact absurd hh (small h q)
    · exact absurd hh (q2 h q)
  · refine ⟨h, by rw [run, q1], q3, fun h' hh => ?_⟩
    rcases Nat.lt_or_ge h' (n_low T + 1) with q | q
    · exact small h' q
    · exact q4 h' q hh
end Trace
