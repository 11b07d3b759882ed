section Home
variable {sp : Nat → Nat} {ph : Bool} {d : Nat} {m : y_m} {L R A B lw t S T U W hole last l : Nat} {i f o h : Bool}
theorem m_up_low (hU : U < 4096) (hb : U.testBit l = true) (hl : l ≠ n_low U) (e : w_rm U l = T) : n_low U = n_low T ∧ m_rs U l = w_rm T (n_low T) := by
  have a := n_low_rm hU hb hl
  rw [e] at a
  refine ⟨a.symm, ?_⟩
  unfold m_rs
  rw [← a, w_rm_comm, e]
theorem m_c4 {last' : Nat} {i' : Bool} (hh : last' * 4 + 2 * i'.toNat + h.toNat < last * 4 + 2 * i.toNat + f.toNat + 1) : last' * 4 + 2 * i'.toNat + h.toNat < last * 4 + 2 * i.toNat + f.toNat ∨ (last' = last ∧ i' = i ∧ h = f) := by
  cases i <;> cases i' <;> cases h <;> cases f <;> simp at hh ⊢ <;> omega
theorem m_pp_succ {E : List (Nat × Nat)} (hU : U < 4096) (hb : U.testBit l = true) (hl : l ≠ n_low U) : m_pp lw L T (last * 4 + 2 * i.toNat + f.toNat + 1) U l o h E ↔ m_pp lw L T (last * 4 + 2 * i.toNat + f.toNat) U l o h E ∨ (w_rm U l = T ∧ 2 ≤ n_pop T ∧ h = f ∧ (w_rm T (n_low T)).testBit last = true ∧ r_x L last l = o ∧ r_may lw i o = true ∧ ∃ E', m_c lw (r_x L) (n_low T) (n_pop T - 2) last (m_rs T last) i f E' ∧ E = w_e last l :: E') := by
  constructor
  · rintro (g | ⟨gT, g2, last', i', E', g3, g4, g5, g6, g7, g8⟩)
    · exact Or.inl (Or.inl g)
    · obtain ⟨u1, u2⟩ := m_up_low hU hb hl gT
      rcases m_c4 g3 with q | ⟨rfl, rfl, rfl⟩
      · exact Or.inl (Or.inr ⟨gT, g2, last', i', E', q, g4, g5, g6, g7, g8⟩)
      · rw [u1, u2] at g7
        rw [u2] at g4
        exact Or.inr ⟨gT, g2, rfl, g4, g5, g6, E', g7, g8⟩
  · rintro ((g | ⟨gT, g2, last', i', E', g3, g4, g5, g6, g7, g8⟩) | ⟨gT, g2, rfl, g4, g5, g6, E', g7, g8⟩)
    · exact Or.inl g
    · exact Or.inr ⟨gT, g2, last', i', E', by omega, g4, g5, g6, g7, g8⟩
    · obtain ⟨u1, u2⟩ := m_up_low hU hb hl gT
      refine Or.inr ⟨gT, g2, last, i, E', by omega, by rw [u2]; exact g4, g5, g6, ?_, g8⟩
      rw [u1, u2]; exact g7
/-- where nothing comes to it, one step more is none -/
theorem m_pp_same {E : List (Nat × Nat)} (hU : U < 4096) (hb : U.testBit l = true) (hl : l ≠ n_low U) (hno : w_rm U l ≠ T ∨ h ≠ f ∨ r_x L last l ≠ o ∨ r_may lw i (r_x L last l) ≠ true ∨ (w_rm T (n_low T)).testBit last ≠ true ∨ ∀ E, ¬ m_c lw (r_x L) (n_low T) (n_pop T - 2) last (m_rs T last) i f E) : m_pp lw L T (last * 4 + 2 * i.toNat + f.toNat + 1) U l o h E ↔ m_pp lw L T (last * 4 + 2 * i.toNat + f.toNat) U l o h E := by
  rw [m_pp_succ hU hb hl]
  refine ⟨fun g => g.elim id (fun ⟨g1, _, g3, g4, g5, g6, E', g7, _⟩ => ?_), Or.inl⟩
  rcases hno with q | q | q | q | q | q
  · exact absurd g1 q
  · exact absurd g3 q
  · exact absurd g5 q
  · rw [g5] at q; exact absurd g6 q
  · exact absurd g4 q
  · exact absurd g7 (q E')
theorem m_or_rm (hb : T.testBit l = false) : w_rm (T ||| 1 <<< l) l = T := by
  refine Nat.eq_of_testBit_eq fun j => ?_
  rw [w_rm_bit, Nat.testBit_or, Nat.one_shiftLeft, Nat.testBit_two_pow]
  by_cases e : l = j
  · subst e
    simp [hb]
  · rw [decide_eq_false e, decide_eq_true (show j ≠ l from fun q => e q.symm)]; simp
theorem m_or_un (hb : U.testBit l = true) (e : w_rm U l = T) : U = T ||| 1 <<< l := by
  refine Nat.eq_of_testBit_eq fun j => ?_
  rw [← e, Nat.testBit_or, w_rm_bit, Nat.one_shiftLeft, Nat.testBit_two_pow]
  by_cases q : l = j
  · subst q
    rw [hb, decide_eq_true rfl]; simp
  · rw [decide_eq_false q, decide_eq_true (show j ≠ l from fun r => q r.symm)]; simp
/-- cells of no way -/
def m_PZ (m : y_m) (W : Nat) : Prop := ∀ U hole o h, U < 4096 → hole < 12 → ¬ ((∀ j, U.testBit j = true → W.testBit j = true) ∧ U.testBit hole = true ∧ hole ≠ n_low U) → y_mJ m 99 (m_ix U hole o h) = -1
theorem l_261 {v : Int} (hW : W = c_wh L R t) (hT : ∀ j, T.testBit j = true → W.testBit j = true) (hlast : T.testBit last = true) (hls : last ≠ n_low T) (hp2 : 2 ≤ n_pop T) (hv : v ≠ -1) : ∀ (n l : Nat) (m : y_m), l + n = L + R → n_low T < l → m_Ch m L R A B lw t → v = y_mJ m 99 (m_ix T last i f) → m_PI m L A B lw W T (fun x => if x < l then last * 4 + 2 * i.toNat + f.toNat + 1 else last * 4 + 2 * i.toNat + f.toNat) → ∃ m', y_R sp ph (d + 6) 261 116 [some (y_bo 11 0 49), some (y_bi (T : Int)), none, some (y_bi (last : Int)), some (y_bi (n_b i)), some (y_bi (n_b f)), some (y_bi (W : Int)), some (y_bl v), none, none, some (y_bi (l : Int)), none] [] m = y_rV m' ∧ q_F (fun a k => a = 92 ∨ a = 93 ∨ (a = 99 ∧ (T + 1) * 48 ≤ k)) m m' ∧ m_PI m' L A B lw W T (fun _ => last * 4 + 2 * i.toNat + f.toNat + 1) ∧ (m_PZ m W → m_PZ m' W) := by
  intro n
  induction n with
  | zero =>
    intro l m hn hs hc hve hI
    have t199 := t_199 (sp := sp) (ph := ph) (d := d + 5) (m := m)
    have hcc := hc
    obtain ⟨g0, g1, _⟩ := hcc
    have hB := hc.2.2.2.2.2.2.2.2.2
    have := hB.1
    have := hB.2.1
    refine ⟨m, ?_, q_F_refl, fun U hole hU hb hl o h => ?_, id⟩
    · rw [y_E_261_116, t199, e_bI, g0, g1, if_pos (by rw [z_w_id (by omega) (by omega), z_w_id (by omega) (by omega)]; omega), y_E_261_200]
    · have := hI U hole hU hb hl o h
      have hlt : hole < l := by have := hU hole hb; rw [hW] at this; have := c_wh_in this; omega
      dsimp only at this
      rw [if_pos hlt] at this
      exact this
  | succ n ih =>
    intro l m hn hs hc hve hI
    have hcc := hc
    obtain ⟨g0, g1, gA, gB, g4, g6, hlw, ht4, hR, hB⟩ := hcc
    have hB' := hB
    obtain ⟨b1, b2, b3, b4, b5, b6, _⟩ := hB'
    have hWl := c_wh_lt (t := t) b1 b2
    have hT4 : T < 4096 := by have := m_sub_le hT; omega
    have hinW : ∀ j, W.testBit j = true → j < L + R := fun j hj => by rw [hW] at hj; exact c_wh_in hj
    have hlt := hinW _ (hT _ hlast)
    have t199 := t_199 (sp := sp) (ph := ph) (d := d + 5) (m := m)
    have t211 := t_211 (sp := sp) (ph := ph) (d := d + 4) (m := m) (x := last) (y := l) g0 b1 (by omega) (by omega)
    have t227 := t_227 (sp := sp) (ph := ph) (d := d + 5) (m := m) (i := i) (o := r_x L last l) g4 hlw
    have e1 : (l : Int) + 1 = ((l + 1 : Nat) : Int) := by omega
    -- no step
    have skip : (W.testBit l = true → T.testBit l = false → r_may lw i (r_x L last l) ≠ true) → m_PI m L A B lw W T (fun x => if x < l + 1 then last * 4 + 2 * i.toNat + f.toNat + 1 else last * 4 + 2 * i.toNat + f.toNat) := by
      intro hno U hole hU hb hl o h
      have := hI U hole hU hb hl o h
      have hU4 : U < 4096 := by have := m_sub_le hU; omega
      dsimp only at this ⊢
      by_cases q : hole < l
      · rw [if_pos q] at this; rw [if_pos (by omega)]; exact this
      · rw [if_neg q] at this
        by_cases q2 : hole = l
        · subst q2
          rw [if_pos (by omega)]
          refine m_rf_congr this (fun E => (m_pp_same hU4 hb hl ?_).symm)
          by_cases q3 : w_rm U hole = T
          · refine Or.inr (Or.inr (Or.inr (Or.inl (hno (hU hole hb) ?_))))
            rw [← q3, w_rm_bit]; simp
          · exact Or.inl q3
        · rw [if_neg (by omega)]; exact this
    rw [y_E_261_116, t199, e_bI, g0, g1, if_neg (by rw [z_w_id (by omega) (by omega), z_w_id (by omega) (by omega)]; omega), t211, e_bI, n_bit (by omega) (by omega), n_bit (by omega) (by omega)]
    cases qW : W.testBit l
    · obtain ⟨m2, c1, c2, c3, c4⟩ := ih (l + 1) m (by omega) (by omega) hc hve (skip (fun q => by rw [qW] at q; cases q))
      refine ⟨m2, ?_, c2, c3, c4⟩
      rw [if_pos (by decide), y_E_261_194, e1]; exact c1
    · rw [if_neg (by decide)]
      cases qT : T.testBit l
      · rw [if_neg (by decide), t227, e_bI]
        cases qm : r_may lw i (r_x L last l)
        · obtain ⟨m2, c1, c2, c3, c4⟩ := ih (l + 1) m (by omega) (by omega) hc hve (skip (fun _ _ q => by rw [qm] at q; cases q))
          refine ⟨m2, ?_, c2, c3, c4⟩
          rw [if_pos (by decide), y_E_261_194, e1]; exact c1
        · -- the step
          have p12 : 1 <<< l < 2 ^ 12 := by rw [Nat.one_shiftLeft]; exact Nat.pow_lt_pow_right (by decide) (by omega)
          have hU4 : T ||| 1 <<< l < 4096 := Nat.or_lt_two_pow (n := 12) hT4 p12
          have hUb : (T ||| 1 <<< l).testBit l = true := by rw [Nat.testBit_or, Nat.one_shiftLeft, Nat.testBit_two_pow]; simp
          have hUr := m_or_rm qT
          have hUT : T < T ||| 1 <<< l := by have := m_lt_rm hUb; rw [hUr] at this; exact this
          have hUW : ∀ j, (T ||| 1 <<< l).testBit j = true → W.testBit j = true := fun j hj => by
            rw [Nat.testBit_or, Nat.one_shiftLeft, Nat.testBit_two_pow, Bool.or_eq_true] at hj
            rcases hj with q | q
            · exact hT j q
            · rw [← of_decide_eq_true q]; exact qW
          have lo := w_low hT4 (m_nz hlast)
          have loU := w_low hU4 (m_nz hUb)
          have hUl : l ≠ n_low (T ||| 1 <<< l) := fun e => by
            have a := loU.2.2.2 (n_low T) (by omega) (by omega)
            rw [Nat.testBit_or, lo.2.2.1] at a; simp at a
          have inU : ∀ j, (T ||| 1 <<< l).testBit j = true → j < L + R := fun j hj => hinW j (hUW j hj)
          have inT : ∀ j, T.testBit j = true → j < L + R := fun j hj => hinW j (hT j hj)
          have hpT := n_pop_le hT4
          have hvrf : m_rf 0 L A B v (m_c lw (r_x L) (n_low T) (n_pop T - 2) last (m_rs T last) i f) := by
            rw [hve]
            refine m_rf_congr (hI T last hT hlast hls i f) (fun E => ?_)
            have hlr := m_lt_rm hlast
            constructor
            · rintro (g | ⟨g, _⟩)
              · exact g.2
              · omega
            · intro g; exact Or.inl ⟨hlr, g⟩
          have cell := hI _ l hUW hUb hUl (r_x L last l) f
          dsimp only at cell
          rw [if_neg (Nat.lt_irrefl _)] at cell
          have hQ : ∀ E, (∃ E', m_c lw (r_x L) (n_low T) (n_pop T - 2) last (m_rs T last) i f E' ∧ E = w_e last l :: E') → m_E L R E := fun E g => by
            obtain ⟨E', g7, rfl⟩ := g
            have : m_pp lw L T (last * 4 + 2 * i.toNat + f.toNat + 1) (T ||| 1 <<< l) l (r_x L last l) f (w_e last l :: E') := (m_pp_succ hU4 hUb hUl).mpr (Or.inr ⟨hUr, hp2, rfl, by rw [w_rm_bit, hlast, decide_eq_true hls]; rfl, rfl, qm, E', g7, rfl⟩)
            exact m_pp_E hU4 inU hUb hUl this
          have hw := m_rf_cons (a := last) (b := l) hvrf
          rw [if_neg hv] at hw
          have wb := m_rf_b hB hQ hw
          have wne : v + (r_code L A B last l : Int) ≠ -1 := by
            rcases hvrf with ⟨q, _⟩ | ⟨E, _, q, _⟩
            · exact absurd q hv
            · omega
          have cb := m_rf_b hB (fun E g => m_pp_E hU4 inU hUb hUl g) cell
          have ixl := m_ix_lt (i := r_x L last l) (f := f) hU4 (show l < 12 by omega)
          have t258 := t_258 (sp := sp) (ph := ph) (d := d + 5) (m := m) (S := T ||| 1 <<< l) (hole := l) (i := r_x L last l) (f := f)
          have t212 := t_212 (sp := sp) (ph := ph) (d := d + 3) (m := m) (x := last) (y := l) (R := R) g0 gA gB b1 b2 hlt (by omega) b4 b6
          obtain ⟨m1, a1, a2, a3⟩ := t_259 (sp := sp) (ph := ph) (d := d + 1) (m := m) (to := m_ix (T ||| 1 <<< l) l (r_x L last l) f) (v := v + (r_code L A B last l : Int)) hR ixl (by omega) wb.2 cb.1 cb.2
          have ixb : (T + 1) * 48 ≤ m_ix (T ||| 1 <<< l) l (r_x L last l) f := by rw [m_ix_eq]; omega
          have ixT : m_ix T last i f < (T + 1) * 48 := by rw [m_ix_eq]; cases i <;> cases f <;> simp <;> omega
          have F1 : q_F (fun a k => a = 92 ∨ a = 93 ∨ (a = 99 ∧ (T + 1) * 48 ≤ k)) m m1 := q_F_mono a2 (fun a k q => by omega)
          obtain ⟨m2, c1, c2, c3, c4⟩ := ih (l + 1) m1 (by omega) (by omega) (m_Ch_F hc a2 (fun a k q => by unfold q_wr; omega)) (by rw [hve, q_F_J F1 99 _ (by omega)]) (fun U hole hU hb hl o h => by
            have old := hI U hole hU hb hl o h
            have hUU : U < 4096 := by have := m_sub_le hU; omega
            dsimp only at old ⊢
            by_cases q2 : hole = l
            · subst q2
              rw [if_neg (Nat.lt_irrefl _)] at old
              rw [if_pos (by omega)]
              by_cases q3 : U = T ||| 1 <<< hole ∧ o = r_x L last hole ∧ h = f
              · obtain ⟨rfl, rfl, rfl⟩ := q3
                rw [a3]
                refine m_rf_congr (m_rf_or hB (by omega) (fun E g => m_pp_E hU4 inU hUb hUl g) hQ cell hw) (fun E => ?_)
                rw [m_pp_succ hU4 hUb hUl]
                constructor
                · rintro (g | g)
                  · exact Or.inl g
                  · exact Or.inr ⟨hUr, hp2, rfl, by rw [w_rm_bit, hlast, decide_eq_true hls]; rfl, rfl, qm, g⟩
                · rintro (g | ⟨_, _, _, _, _, _, g⟩)
                  · exact Or.inl g
                  · exact Or.inr g
              · have hne := m_ix_ne (S := U) (S' := T ||| 1 <<< hole) (i := o) (f := h) (i' := r_x L last hole) (f' := f) (show hole < 12 by omega) (show hole < 12 by omega) (fun e => q3 ⟨e.1, e.2.2.1, e.2.2.2⟩)
                rw [q_F_J a2 99 _ (by omega)]
                refine m_rf_congr old (fun E => (m_pp_same hUU hb hl ?_).symm)
                by_cases q4 : w_rm U hole = T
                · by_cases q5 : h = f
                  · exact Or.inr (Or.inr (Or.inl (fun e => q3 ⟨m_or_un hb q4, e.symm, q5⟩)))
                  · exact Or.inr (Or.inl q5)
                · exact Or.inl q4
            · have hne := m_ix_ne (S := U) (S' := T ||| 1 <<< l) (i := o) (f := h) (i' := r_x L last l) (f' := f) (show hole < 12 by have := hinW _ (hU _ hb); omega) (show l < 12 by omega) (fun e => q2 e.2.1)
              rw [q_F_J a2 99 _ (by omega)]
              by_cases q : hole < l
              · rw [if_pos q] at old; rw [if_pos (by omega)]; exact old
              · rw [if_neg q] at old; rw [if_neg (by omega)]; exact old)
          refine ⟨m2, ?_, q_F_trans F1 c2, c3, fun hz => c4 (fun U hole o h hU hh hno => by
            have hne := m_ix_ne (S := U) (S' := T ||| 1 <<< l) (i := o) (f := h) (i' := r_x L last l) (f' := f) hh (show l < 12 by omega) (fun e => hno (by rw [e.1, e.2.1]; exact ⟨hUW, hUb, hUl⟩))
            rw [q_F_J a2 99 _ (by omega)]
            exact hz U hole o h hU hh hno)⟩
          have eor : z_ior (T : Int) (z_ishl 1 (l : Int)) = ((T ||| 1 <<< l : Nat) : Int) := by
            rw [show (1 : Int) = ((1 : Nat) : Int) from rfl, n_ishl (by omega) (by omega), n_ior (by omega) (by omega)]
          rw [if_neg (by decide), eor, t258, e_bI, t212, e_bL, a1, e_bV, y_E_261_194, e1]
          exact c1
      · obtain ⟨m2, c1, c2, c3, c4⟩ := ih (l + 1) m (by omega) (by omega) hc hve (skip (fun _ q => by rw [qT] at q; cases q))
        refine ⟨m2, ?_, c2, c3, c4⟩
        rw [if_pos (by decide), y_E_261_194, e1]; exact c1
end Home
