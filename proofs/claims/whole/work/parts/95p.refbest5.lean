section Best
variable {sp : Nat → Nat} {ph : Bool} {d : Nat} {m : y_m} {L R A B lw what S been idx : Nat} {i f : Bool}
theorem l_254a (hw : what ≤ 2) (h3 : 3 ≤ n_pop S) : ∀ (n j : Nat) (a : Nat × Int) (m : y_m), j + n = n_pop S → 1 ≤ j → m_Cb m L R A B lw S → m_bs m L A B lw what S 1 → -1 ≤ a.2 → a.2 < 167772160000 → ∃ m', y_R sp ph (d + 4) 254 20 [some (y_bo 11 0 49), none, some (y_bi (what : Int)), some (y_bl a.2), none, some (y_bi (a.1 : Int)), some (y_bi (j : Int)), none, none, none, none, none, none, none, none, none, none] [] m = y_R sp ph (d + 4) 254 81 [some (y_bo 11 0 49), none, some (y_bi (what : Int)), some (y_bl (m_fk A B what (m_sj A B L lw what S) n j a).2), none, some (y_bi ((m_fk A B what (m_sj A B L lw what S) n j a).1 : Int)), none, none, none, none, none, none, none, none, none, none, none] [] m' ∧ q_F m_9 m m' := by
  intro n
  induction n with
  | zero =>
    intro j a m hj h1 hc hbs a1 a2
    have hp := n_pop_le hc.1.2.2.2.2.2.1
    have g5 := hc.1.2.2.2.2.1.1
    refine ⟨m, ?_, q_F_refl⟩
    rw [m_fk, y_E_254_20]
    simp (disch := omega) only [z_w_id, if_pos, if_neg, e_g, e_bI, e_bV, e_bL, e_II, e_II', e_IJ, e_JI, e_JJ, e_JJ', reduceIte, not_true_eq_false, not_false_eq_true, true_or, or_true, true_and, and_true, e_nb0, e_gT, g5]
  | succ n ih =>
    intro j a m hj h1 hc hbs a1 a2
    have hp := n_pop_le hc.1.2.2.2.2.2.1
    have g5 := hc.1.2.2.2.2.1.1
    have ej1 : (j : Int) + 1 = ((j + 1 : Nat) : Int) := by omega
    have t253 := t_253 (sp := sp) (ph := ph) (d := d) hc hw h1 (show j < n_pop S by omega) hbs
    have bj := m_rf_b hc.2.2.2.2.1 (fun E g => (m_RX_ok hc h3 (m_Ps_RX hc.1.2.2.2.2.2.1 g)).1) (m_sj_rf hc h3 hw h1 (show j < n_pop S by omega))
    have lc1 : (z_w (z_lcmp (m_sj A B L lw what S j) (-1)) = 0) = (m_sj A B L lw what S j = -1) := n_lc_eq (by omega) (by omega) (by omega) (by omega)
    have lc2 : (z_w (z_lcmp a.2 (-1)) = 0) = (a.2 = -1) := n_lc_eq (by omega) (by omega) (by omega) (by omega)
    rw [m_fk, y_E_254_20, if_neg (by rw [g5, z_w_id (by omega) (by omega), z_w_id (by omega) (by omega)]; omega), t253, e_bL]
    rcases t_tkb (sp := sp) (ph := ph) (d := d) (m := m) (w := m_sj A B L lw what S j) (v := a.2) hc.2.2.2.1 hw bj.1 bj.2 a1 a2 with ⟨c1, c2⟩ | ⟨c1, c2, c3⟩ | ⟨c1, c2, m1, c3, c4⟩
    · obtain ⟨m2, b1, b2⟩ := ih (j + 1) a m (by omega) (by omega) hc hbs a1 a2
      refine ⟨m2, ?_, b2⟩
      rw [c2, if_pos (by rw [lc1]; exact c1), y_E_254_75, ej1, b1]
      rfl
    · obtain ⟨m2, b1, b2⟩ := ih (j + 1) (j, m_sj A B L lw what S j) m (by omega) (by omega) hc hbs bj.1 bj.2
      refine ⟨m2, ?_, b2⟩
      rw [c3, if_neg (by rw [lc1]; exact c1), if_pos (by rw [lc2]; exact c2), y_E_254_68, y_E_254_75, ej1, b1]
      rfl
    · rw [if_neg (by rw [lc1]; exact c1), if_neg (by rw [lc2]; exact c2), c3, e_bI]
      have hc1 := m_Cb_9 hc (m_9_96 c4)
      have hb1 := m_bs_9 hbs c4
      cases k : m_tk A B what (m_sj A B L lw what S j) a.2
      · obtain ⟨m2, b1, b2⟩ := ih (j + 1) a m1 (by omega) (by omega) hc1 hb1 a1 a2
        refine ⟨m2, ?_, q_F_trans c4 b2⟩
        rw [if_neg (by decide), y_E_254_75, ej1, b1]
        rfl
      · obtain ⟨m2, b1, b2⟩ := ih (j + 1) (j, m_sj A B L lw what S j) m1 (by omega) (by omega) hc1 hb1 bj.1 bj.2
        refine ⟨m2, ?_, q_F_trans c4 b2⟩
        rw [if_pos (by decide), y_E_254_68, y_E_254_75, ej1, b1]
        rfl
theorem l_254c {x3 : Int} {x10 : Nat} (hw : what ≤ 2) (hb : been < 2 ^ (n_pop S - 1)) (hi : idx < n_pop S) (hii : 1 ≤ idx) (hbi : been.testBit (idx - 1) = true) : ∀ (n j : Nat) (a : Nat × Int) (m : y_m), j + n = n_pop S → 1 ≤ j → m_Cb m L R A B lw S → m_bs m L A B lw what S (been + 1) → -1 ≤ a.2 → a.2 < 167772160000 → ∃ m', y_R sp ph (d + 4) 254 176 [some (y_bo 11 0 49), none, some (y_bi (what : Int)), some (y_bl x3), none, none, some (y_bi (been : Int)), some (y_bi (idx : Int)), some (y_bi (n_b i)), some (y_bi (n_b f)), some (y_bi (x10 : Int)), some (y_bi (a.1 : Int)), some (y_bl a.2), none, some (y_bi (j : Int)), none, none] [] m = y_R sp ph (d + 4) 254 248 [some (y_bo 11 0 49), none, some (y_bi (what : Int)), some (y_bl x3), none, none, some (y_bi (been : Int)), some (y_bi (idx : Int)), none, some (y_bi (n_b f)), some (y_bi (x10 : Int)), some (y_bi ((m_fk A B what (m_bj A B L lw what S been idx i f) n j a).1 : Int)), none, none, none, none, none] [] m' ∧ q_F m_9 m m' := by
  intro n
  induction n with
  | zero =>
    intro j a m hj h1 hc hbs a1 a2
    have hp := n_pop_le hc.1.2.2.2.2.2.1
    have g5 := hc.1.2.2.2.2.1.1
    refine ⟨m, ?_, q_F_refl⟩
    rw [m_fk, y_E_254_176]
    simp (disch := omega) only [z_w_id, if_pos, if_neg, e_g, e_bI, e_bV, e_bL, e_II, e_II', e_IJ, e_JI, e_JJ, e_JJ', reduceIte, not_true_eq_false, not_false_eq_true, true_or, or_true, true_and, and_true, e_nb0, e_gT, g5]
  | succ n ih =>
    intro j a m hj h1 hc hbs a1 a2
    have hp := n_pop_le hc.1.2.2.2.2.2.1
    have g5 := hc.1.2.2.2.2.1.1
    have ej1 : (j : Int) + 1 = ((j + 1 : Nat) : Int) := by omega
    have t252 := t_252 (sp := sp) (ph := ph) (d := d) (i := i) (f := f) hc hw hb hi h1 (show j < n_pop S by omega) hbs
    have bj := m_bj_b (i := i) (f := f) hc hw hb hi h1 (show j < n_pop S by omega) hii hbi
    have lc1 : (z_w (z_lcmp (m_bj A B L lw what S been idx i f j) (-1)) = 0) = (m_bj A B L lw what S been idx i f j = -1) := n_lc_eq (by omega) (by omega) (by omega) (by omega)
    have lc2 : (z_w (z_lcmp a.2 (-1)) = 0) = (a.2 = -1) := n_lc_eq (by omega) (by omega) (by omega) (by omega)
    rw [m_fk, y_E_254_176, if_neg (by rw [g5, z_w_id (by omega) (by omega), z_w_id (by omega) (by omega)]; omega), t252, e_bL]
    rcases t_tkb (sp := sp) (ph := ph) (d := d) (m := m) (w := m_bj A B L lw what S been idx i f j) (v := a.2) hc.2.2.2.1 hw bj.1 bj.2 a1 a2 with ⟨c1, c2⟩ | ⟨c1, c2, c3⟩ | ⟨c1, c2, m1, c3, c4⟩
    · obtain ⟨m2, b1, b2⟩ := ih (j + 1) a m (by omega) (by omega) hc hbs a1 a2
      refine ⟨m2, ?_, b2⟩
      rw [c2, if_pos (by rw [lc1]; exact c1), y_E_254_242, ej1, b1]
      rfl
    · obtain ⟨m2, b1, b2⟩ := ih (j + 1) (j, m_bj A B L lw what S been idx i f j) m (by omega) (by omega) hc hbs bj.1 bj.2
      refine ⟨m2, ?_, b2⟩
      rw [c3, if_neg (by rw [lc1]; exact c1), if_pos (by rw [lc2]; exact c2), y_E_254_234, y_E_254_242, ej1, b1]
      rfl
    · rw [if_neg (by rw [lc1]; exact c1), if_neg (by rw [lc2]; exact c2), c3, e_bI]
      have hc1 := m_Cb_9 hc (m_9_96 c4)
      have hb1 := m_bs_9 hbs c4
      cases k : m_tk A B what (m_bj A B L lw what S been idx i f j) a.2
      · obtain ⟨m2, b1, b2⟩ := ih (j + 1) a m1 (by omega) (by omega) hc1 hb1 a1 a2
        refine ⟨m2, ?_, q_F_trans c4 b2⟩
        rw [if_neg (by decide), y_E_254_242, ej1, b1]
        rfl
      · obtain ⟨m2, b1, b2⟩ := ih (j + 1) (j, m_bj A B L lw what S been idx i f j) m1 (by omega) (by omega) hc1 hb1 bj.1 bj.2
        refine ⟨m2, ?_, q_F_trans c4 b2⟩
        rw [if_pos (by decide), y_E_254_234, y_E_254_242, ej1, b1]
        rfl
theorem m_bs_mono {lo lo' : Nat} (h : m_bs m L A B lw what S lo) (hl : lo ≤ lo') : m_bs m L A B lw what S lo' := fun b h1 h2 => h b (by omega) h2
/-- the first of the best, hole by hole -/
theorem l_254b {x3 M : Int} (hw : what ≤ 2) (h3 : 3 ≤ n_pop S) (hM : ∀ E, m_RX lw L S E → M ≤ m_S what L A B E) {EM : List (Nat × Nat)} (hEM : m_RX lw L S EM ∧ M = m_S what L A B EM) : ∀ (n x10 been idx : Nat) (i : Bool) (Ep : List (Nat × Nat)) (m : y_m), x10 + n = n_pop S → n_pop (r_rest S been) = n → m_Cb m L R A B lw S → m_bs m L A B lw what S 1 → been < 2 ^ (n_pop S - 1) → idx < n_pop S → 1 ≤ idx → been.testBit (idx - 1) = true → (∀ E, m_h lw (r_x L) (r_hs S 0) n (r_hs S idx) i (r_rest S been) f E → m_RX lw L S (Ep ++ E)) → (∃ E, m_h lw (r_x L) (r_hs S 0) n (r_hs S idx) i (r_rest S been) f E ∧ m_bw A B L lw what S been idx i f = (w_code L A B E : Int) ∧ m_S what L A B Ep + m_S what L A B E ≤ M + 64) → ∃ u m', y_R sp ph (d + 4) 254 156 [some (y_bo 11 0 49), none, some (y_bi (what : Int)), some (y_bl x3), none, none, some (y_bi (been : Int)), some (y_bi (idx : Int)), some (y_bi (n_b i)), some (y_bi (n_b f)), some (y_bi (x10 : Int)), none, none, none, none, none, none] [] m = y_rL x3 m' ∧ q_F (fun a _ => a = 92 ∨ a = 93 ∨ a = 97) m m' ∧ (∀ j, j < x10 → y_mI m' 97 j = y_mI m 97 j) ∧ (∀ j, j < n → y_mI m' 97 (x10 + j) = ((u.getD j 0 : Nat) : Int)) ∧ u.length = n ∧ m_gr what L A B lw (r_x L) (r_hs S 0) M n (some (i, f)) (r_hs S idx) (r_rest S been) (m_S what L A B Ep) u ∧ m_bw A B L lw what S been idx i f = (w_code L A B (m_eu (r_hs S 0) (r_hs S idx) u) : Int) := by
  intro n
  induction n with
  | zero =>
    intro x10 been idx i Ep m hx hn hc hbs hb hi hii hbi hpre hex
    have hp := n_pop_le hc.1.2.2.2.2.2.1
    have g5 := hc.1.2.2.2.2.1.1
    obtain ⟨E, q1, q2, q3⟩ := hex
    refine ⟨[], m, ?_, q_F_refl, fun _ _ => rfl, fun j hj => absurd hj (Nat.not_lt_zero _), rfl, rfl, ?_⟩
    · rw [y_E_254_156]
      simp (disch := omega) only [z_w_id, if_pos, if_neg, e_g, e_bI, e_bV, e_bL, e_II, e_II', e_IJ, e_JI, e_JJ, e_JJ', reduceIte, not_true_eq_false, not_false_eq_true, true_or, or_true, true_and, and_true, e_nb0, e_gT, g5, y_E_254_303]
    · rw [q2, q1.2.2]; rfl
  | succ n ih =>
    intro x10 been idx i Ep m hx hn hc hbs hb hi hii hbi hpre hex
    have hB := hc.2.2.2.2.1
    have hS := hc.1.2.2.2.2.2.1
    have hp := n_pop_le hS
    have g5 := hc.1.2.2.2.2.1.1
    have g6 := hc.1.2.2.2.2.1.2
    obtain ⟨Ec, q1, q2, q3⟩ := hex
    have hfk := (m_bw_fk (A := A) (B := B) (what := what) (idx := idx) (i := i) (f := f) hc (show 0 < n_pop (r_rest S been) by omega)).2
    have hPn : ∀ h E, m_Pn lw L S been idx i f h E → m_RX lw L S (Ep ++ E) := by
      rintro h E ⟨_, _, p1, p2, E', p3, rfl⟩
      rw [hn, Nat.add_sub_cancel] at p3
      exact hpre _ ⟨r_hs S h, E', p1, p2, p3, rfl⟩
    have hsub : ∀ {D E : List (Nat × Nat)}, m_E L R (D ++ E) → m_E L R E := by
      rintro D E ⟨⟨x1, x2⟩, x3⟩
      rw [List.length_append] at x3
      exact ⟨⟨(List.nodup_append.mp x1).2.1, fun e he => x2 e (List.mem_append_right _ he)⟩, by omega⟩
    have hPE : ∀ h E, m_Pn lw L S been idx i f h E → m_E L R E := fun h E g => hsub (m_RX_ok hc h3 (hPn h E g)).1
    have gd := m_fk_gd (what := what) (j0 := 1) (N := n_pop S) (g := m_bj A B L lw what S been idx i f) hB hw hPE (fun h p1 p2 => m_bj_rf hc hw hb p1 p2) (n_pop S - 1) 1 (0, -1) (by omega) (by omega) m_gd_0
    obtain ⟨m1, c1, c2⟩ := l_254c (sp := sp) (ph := ph) (d := d) (x3 := x3) (x10 := x10) (i := i) (f := f) hw hb hi hii hbi (n_pop S - 1) 1 (0, -1) m (by omega) (by omega) hc (m_bs_mono hbs (by omega)) (by decide) (by decide)
    generalize m_fk A B what (m_bj A B L lw what S been idx i f) (n_pop S - 1) 1 (0, -1) = pv at *
    obtain ⟨to, v⟩ := pv
    dsimp only at *
    have hvne : v ≠ -1 := by rw [← hfk, q2]; omega
    obtain ⟨t1, t2, t3, t4⟩ := gd.2 hvne
    dsimp only at t1 t2 t3 t4
    -- the picked place
    have hok : (r_rest S been).testBit (r_hs S to) = true ∧ r_may lw i (r_x L (r_hs S idx) (r_hs S to)) = true := by
      by_cases c : (r_rest S been).testBit (r_hs S to) = true ∧ r_may lw i (r_x L (r_hs S idx) (r_hs S to)) = true
      · exact c
      · exfalso
        apply hvne
        rw [t3]; unfold m_bj m_bb; rw [if_neg c]
    have qb := (r_rest_hs (been := been) hS t1 t2).mp hok.1
    have hpw := r_pw hS
    obtain ⟨o1, o2, o3⟩ := n_or_bit (show been < 2048 by omega) (show to < 12 by omega) t1 qb
    have eo := r_rest_or (been := been) hS t1 t2
    have olt : been ||| 1 <<< (to - 1) < 2 ^ (n_pop S - 1) := Nat.or_lt_two_pow hb (by rw [Nat.one_shiftLeft]; exact Nat.pow_lt_pow_right (by decide) (by omega))
    have hpr := n_pop_rm (r_rest_lt S been) hok.1
    have hbw : m_bj A B L lw what S been idx i f to = m_sp (m_bw A B L lw what S (been ||| 1 <<< (to - 1)) to (r_x L (r_hs S idx) (r_hs S to)) f) (r_code L A B (r_hs S idx) (r_hs S to)) := by
      unfold m_bj m_bb m_bw
      rw [if_pos hok, eo, show n_pop (w_rm (r_rest S been) (r_hs S to)) = n_pop (r_rest S been) - 1 by omega]
    have a := m_bw_rf (i := r_x L (r_hs S idx) (r_hs S to)) (f := f) hc hw olt t1 t2 o3
    have hwne : m_bw A B L lw what S (been ||| 1 <<< (to - 1)) to (r_x L (r_hs S idx) (r_hs S to)) f ≠ -1 := fun e => by
      rw [hbw, e] at t3; exact hvne t3
    rw [eo, show n_pop (w_rm (r_rest S been) (r_hs S to)) = n by omega] at a
    rcases a with ⟨a1, _⟩ | ⟨E', a1, a2, a3⟩
    · exact absurd a1 hwne
    have hE' : m_h lw (r_x L) (r_hs S 0) (n + 1) (r_hs S idx) i (r_rest S been) f (w_e (r_hs S idx) (r_hs S to) :: E') := ⟨r_hs S to, E', hok.1, hok.2, a1, rfl⟩
    have ok1 := (m_RX_ok hc h3 (hpre _ hE')).1
    have ok2 := (m_RX_ok hc h3 (hpre _ q1)).1
    have hcv : v = (w_code L A B (w_e (r_hs S idx) (r_hs S to) :: E') : Int) := by
      rw [t3, hbw, m_sp, if_neg hwne, a2, w_code_cons]; omega
    have hcE : w_code L A B (w_e (r_hs S idx) (r_hs S to) :: E') = w_code L A B Ec := by
      have : (w_code L A B (w_e (r_hs S idx) (r_hs S to) :: E') : Int) = (w_code L A B Ec : Int) := by rw [← hcv, ← q2, hfk]
      omega
    have hSE := m_S_code (what := what) hB (hsub ok1) (hsub ok2) hcE
    rw [m_S_cons] at hSE
    -- on
    have hF2 : q_F (fun a _ => a = 97) m1 (y_sI m1 97 x10 (r_hs S to)) := q_F_sI rfl
    have hc2 := m_Cb_F (m_Cb_9 hc (m_9_96 c2)) hF2 (fun a k q => by unfold q_wr; omega)
    have hbs1 := m_bs_9 hbs c2
    have hbs2 : m_bs (y_sI m1 97 x10 (r_hs S to)) L A B lw what S 1 := hbs1
    obtain ⟨u, m3, b1, b2, b3, b4, b5, b6, b7⟩ := ih (x10 + 1) (been ||| 1 <<< (to - 1)) to (r_x L (r_hs S idx) (r_hs S to)) (Ep ++ [w_e (r_hs S idx) (r_hs S to)]) _ (by omega) (by rw [eo]; omega) hc2 hbs2 olt t2 t1 o3 (fun E hE => by
      rw [eo] at hE
      rw [List.append_assoc]
      exact hpre _ ⟨r_hs S to, E, hok.1, hok.2, hE, rfl⟩) ⟨E', by rw [eo]; exact a1, a2, by rw [m_S_app]; show _ + (_ + 0) + _ ≤ _; omega⟩
    have hSp : m_S what L A B (Ep ++ [w_e (r_hs S idx) (r_hs S to)]) = m_S what L A B Ep + m_w what L A B (w_e (r_hs S idx) (r_hs S to)) := by
      rw [m_S_app]; show _ + (_ + 0) = _; omega
    rw [hSp, eo] at b6
    refine ⟨r_hs S to :: u, m3, ?_, q_F_trans (q_F_mono c2 (fun a k q => by unfold m_9 at q; omega)) (q_F_trans (q_F_mono hF2 (fun a k q => by omega)) b2), fun j hj => ?_, fun j hj => ?_, by rw [List.length_cons, b5], ?_, ?_⟩
    · have c1' : y_R sp ph (d + 4) 254 176 [some (y_bo 11 0 49), none, some (y_bi (what : Int)), some (y_bl x3), none, none, some (y_bi (been : Int)), some (y_bi (idx : Int)), some (y_bi (n_b i)), some (y_bi (n_b f)), some (y_bi (x10 : Int)), some (y_bi 0), some (y_bl (-1)), none, some (y_bi 1), none, none] [] m = _ := c1
      have hc1 := m_Cb_9 hc (m_9_96 c2)
      obtain ⟨⟨k1, k2, k3, k4, ⟨k5, k6⟩, k7, k8⟩, _⟩ := hc1
      have h1 := (r_hs_B hi).1
      have h2 := (r_hs_B t2).1
      have ei : y_mI m1 94 (idx : Int).toNat = (r_hs S idx : Int) := k6 idx hi
      have et : y_mI m1 94 (to : Int).toNat = (r_hs S to : Int) := k6 to t2
      have e1 : (to : Int) - 1 = ((to - 1 : Nat) : Int) := by omega
      have ex : (x10 : Int) + 1 = ((x10 + 1 : Nat) : Int) := by omega
      have eor : z_ior (been : Int) (z_ishl 1 ((to - 1 : Nat) : Int)) = ((been ||| 1 <<< (to - 1) : Nat) : Int) := by
        have hs1 : 1 <<< (to - 1) < 2 ^ 11 := by rw [Nat.one_shiftLeft]; exact Nat.pow_lt_pow_right (by decide) (by omega)
        rw [show (1 : Int) = ((1 : Nat) : Int) from rfl, n_ishl (by omega) (by omega), n_ior (by omega) (by omega)]
      have k12 : ∀ (w : Nat) (r : y_Rs), w < 12 → y_g (0 ≤ (w : Int) ∧ (w : Int) < (12 : Int)) r = r := fun w r h => e_g ⟨by omega, by omega⟩
      have hi12 : idx < 12 := by omega
      have ht12 : to < 12 := by omega
      have hx12 : x10 < 12 := by omega
      have ei' := k6 idx hi
      have et' := k6 to t2
      rw [← b1, y_E_254_156]
      simp (disch := first | assumption | omega) only [z_w_id, if_neg, g5, c1', y_E_254_248, k12, ei, et, t_211 k1 k3, e_bI, e1, eor, ex, Int.toNat_natCast, ei', et']
    · rw [b3 j (by omega), e_II' (by omega), q_F_I c2 97 j (by unfold m_9; omega)]
    · by_cases q : j = 0
      · subst q
        rw [Nat.add_zero, b3 x10 (by omega), e_II]; rfl
      · obtain ⟨j', hj'⟩ : ∃ j', j = j' + 1 := ⟨j - 1, by omega⟩
        subst hj'
        rw [show x10 + (j' + 1) = x10 + 1 + j' by omega, b4 j' (by omega)]
        rfl
    · refine ⟨r_hs S to, u, rfl, ⟨hok.1, hok.2, E', a1, by omega⟩, ?_, b6⟩
      rintro h' hlt ⟨r1, r2, E2, r3, r4⟩
      have hb' := (r_rest_bit hS).mp r1
      have h12 : h' < 12 := by have := (r_hs_B t2).1; omega
      have hix := r_ix_lt hb'.1 h12
      rw [r_ix_12] at hix
      have eh := r_hs_ix hb'.1 h12
      have hlt2 : r_ix S h' < to := (r_hs_lt hix t2).mp (by rw [eh]; exact hlt)
      have P1 : m_Pn lw L S been idx i f (r_ix S h') (w_e (r_hs S idx) h' :: E2) := ⟨hb'.2.1, hix, by rw [eh]; exact r1, by rw [eh]; exact r2, E2, by rw [eh, hn, Nat.add_sub_cancel]; exact r3, by rw [eh]⟩
      have P2 : m_Pn lw L S been idx i f to (w_e (r_hs S idx) (r_hs S to) :: E') := ⟨t1, t2, hok.1, hok.2, E', by rw [hn, Nat.add_sub_cancel]; exact a1, rfl⟩
      have t4' := t4 _ hb'.2.1 hlt2 _ _ P1 P2 hcv
      have hM2 := hM _ (hPn _ _ P2)
      rw [m_S_app] at hM2
      rw [m_S_cons] at t4' hM2
      rw [m_S_cons] at t4'
      omega
    · rw [hfk, hcv]
      have : (m_bw A B L lw what S (been ||| 1 <<< (to - 1)) to (r_x L (r_hs S idx) (r_hs S to)) f) = _ := b7
      rw [a2] at this
      rw [m_eu, w_code_cons, w_code_cons]
      omega
end Best
