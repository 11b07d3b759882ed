section Measure3
variable {sp : Nat → Nat} {ph : Bool} {d : Nat} {m m' : y_m} {L R A B t lw X a b : Nat} {w : List Nat} {P : List (Nat × Nat)}
theorem s_144 {k s : Nat} {u : List Nat} (hU : u_C m L R A B t lw X w) (hX : X ≤ 9999) (hw : w = s :: u) (hk : k ≤ 4) : y_V sp ph (d + 6) 144 [y_bo 10 0 0, y_bi (k : Int)] m = y_rI (u_me L A B X w (m_eu s s u) k) m := by
  obtain ⟨hK, -, hQ, -⟩ := hU
  have hn : w ≠ [] := by rw [hw]; exact List.cons_ne_nil _ _
  obtain ⟨s', u', hw', -, hE, hel, hlt, -⟩ := c_K_E hK hn
  have hsu : s' = s ∧ u' = u := by rw [hw] at hw'; exact ⟨(List.cons.inj hw').1.symm, (List.cons.inj hw').2.symm⟩
  rw [hsu.1, hsu.2] at hE hel hlt
  have hwb := u_w12 hK
  have hB := hQ.1
  have hl1 := hB.1
  have hr1 := hB.2.1
  have hwb12 : ∀ h ∈ w, h < 12 := fun h hh => by have := hwb h hh; omega
  obtain ⟨g1, g2, g3, g4, g5, g6, g7, g8, g9, g10, g11, g12, g13, g14, h15, -⟩ := hK
  have s171 := s_171y (sp := sp) (ph := ph) (d := d + 4) (m := m) h15 hn
  have nn := m_nn hB hE
  have b0 := (m_S_b (what := 0) hB (E := m_eu s s u) (fun e he => by have := hE.1.2 e he; omega)).2
  have b2 := (m_S_b (what := 2) hB (E := m_eu s s u) (fun e he => by have := hE.1.2 e he; omega)).1
  have s54 := s_54 (sp := sp) (ph := ph) (d := d + 1) (m := m) (a := 23) (b := y_mc m) (w := w) (R := R) (B := B) h15 hn hwb g2 hB.1 hB.2.1 hQ.2.2.2.2.2.1 hB.2.2.2.2.2.1
  have s55 := s_55 (sp := sp) (ph := ph) (d := d + 1) (m := m) (a := 23) (b := y_mc m) (w := w) (R := R) h15 hn hwb g2 hB.1 hB.2.1
  have el := m_len_w (s := s) (u := u) hQ hlt
  have ep := m_pul_w (s := s) (u := u) hQ hlt
  rw [← hw] at el ep
  rw [el] at s54
  rw [ep] at s55
  rw [y_C_144]
  rcases (show k = 0 ∨ k = 1 ∨ k = 2 ∨ k = 3 ∨ k = 4 by omega) with rfl | rfl | rfl | rfl | rfl
  · have s58 := s_58 (sp := sp) (ph := ph) (d := d + 4) (m := m) (x := m_S 0 L A B (m_eu s s u)) (by omega) (by omega)
    rw [y_E_144_0_0 _ _ _ _ (by decide), s171, e_bV, y_E_144_40, s54, e_bL, s58, e_bI]; rfl
  · have s59 := s_59 (sp := sp) (ph := ph) (d := d + 4) (m := m) (x := - m_S 2 L A B (m_eu s s u)) (by omega) (by omega)
    rw [y_E_144_0_1 _ _ _ _ (by decide), s171, e_bV, y_E_144_62, s55, e_bL, s59, e_bI]; rfl
  · have s73 := s_73 (sp := sp) (ph := ph) (d := d + 1) (m := m) (a := 23) (b := y_mc m) h15 hn hwb12 g2 g9
    rw [y_E_144_0_2 _ _ _ _ (by decide), s171, e_bV, y_E_144_84, s73, e_bI]; rfl
  · have s74 := s_74 (sp := sp) (ph := ph) (d := d + 1) (m := m) (a := 23) (b := y_mc m) h15 hn hwb12 g2 g9
    rw [y_E_144_0_3 _ _ _ _ (by decide), s171, e_bV, y_E_144_99, s74, e_bI]; rfl
  · have s57 := s_57 (sp := sp) (ph := ph) (d := d + 3) (m := m) (x := m_S 0 L A B (m_eu s s u)) (y := X) (by omega) (by omega) hX
    rw [y_E_144_0_4 _ _ _ _ (by decide), s171, e_bV, y_E_144_114, s54, e_bL, g8, s57, e_bI]
    show _ = y_rI (n_b (!decide ((X : Int) * 281474976710656 + 64 < m_S 0 L A B (m_eu s s u)))) m
    cases decide ((X : Int) * 281474976710656 + 64 < m_S 0 L A B (m_eu s s u))
    · rw [if_neg (by decide), y_E_144_150]; rfl
    · rw [if_pos (by decide), y_E_144_149, y_E_144_150]; rfl
theorem l_234 {x1 : Int} (hV : q_V m w) (hn : w ≠ []) (hb : ∀ h ∈ w, h < 12) (hL : y_mI m 52 0 = (L : Int)) (h6 : L ≤ 6) : ∀ (k i : Nat) (x2 x3 : Int), i + k = w.length → y_R sp ph (d + 2) 234 89 [some (y_bo 11 0 49), some (y_bi x1), some (y_bi x2), some (y_bi x3), some (y_bi (i : Int)), none, none] [] m = y_R sp ph (d + 2) 234 173 [none, some (y_bi x1), some (y_bi (x2 + q_S (fun (i : Nat) => n_b (q_ac L w (i : Int))) i k)), some (y_bi (x3 + q_S (fun i => n_b (q_along L w i)) i k)), none, none, none] [] m := by
  have hl := hV.2.1
  intro k
  induction k with
  | zero =>
    intro i x2 x3 h
    rw [y_E_234_89, hV.1, if_pos (by rw [z_w_id (by omega) (by omega), z_w_id (by omega) (by omega)]; omega), q_S, q_S, Int.add_zero, Int.add_zero]
  | succ k ih =>
    intro i x2 x3 h
    have t226 := t_226 (sp := sp) (ph := ph) (d := d + 1) (i := i) hV hn (by omega)
    have t225 := t_225 (sp := sp) (ph := ph) (d := d + 1) (i := i) hV hn (by omega)
    have q1 := hb _ (q_at_mem (w := w) (i := (i : Int) - 1) hn)
    have q2 := hb _ (q_at_mem (w := w) (i := (i : Int)) hn)
    have q3 := hb _ (q_at_mem (w := w) (i := (i : Int) + 1) hn)
    have e54 : y_mI m 54 i = (q_at w (i : Int) : Nat) := by rw [hV.2.2 i (by omega), q_at_nat (by omega)]
    have t211a := t_211 (sp := sp) (ph := ph) (d := d) (m := m) (x := q_at w ((i : Int) - 1)) (y := q_at w (i : Int)) hL h6 (by omega) (by omega)
    have t211b := t_211 (sp := sp) (ph := ph) (d := d) (m := m) (x := q_at w (i : Int)) (y := q_at w ((i : Int) + 1)) hL h6 (by omega) (by omega)
    have ea : r_x L (q_at w ((i : Int) - 1)) (q_at w (i : Int)) = q_ac L w ((i : Int) - 1) := by
      unfold q_ac
      rw [show (i : Int) - 1 + 1 = (i : Int) by omega]
    have eb : r_x L (q_at w (i : Int)) (q_at w ((i : Int) + 1)) = q_ac L w (i : Int) := rfl
    rw [ea] at t211a
    rw [eb] at t211b
    rw [y_E_234_89, hV.1, if_neg (by rw [z_w_id (by omega) (by omega), z_w_id (by omega) (by omega)]; omega), t226, e_bI, e_g ⟨by omega, by omega⟩, Int.toNat_natCast, e54, t211a, e_bI, e_g ⟨by omega, by omega⟩, t225, e_bI, e54, t211b, e_bI]
    have eal : q_along L w i = (!(q_ac L w ((i : Int) - 1)) && !(q_ac L w (i : Int))) := rfl
    rw [q_S, q_S, eal, ← Int.add_assoc, ← Int.add_assoc]
    cases q_ac L w (i : Int)
    · rw [if_pos (by decide), y_E_234_146, y_E_234_147]
      cases q_ac L w ((i : Int) - 1)
      · rw [if_neg (by decide), if_pos (by decide), y_E_234_164, y_E_234_165, show (i : Int) + 1 = ((i + 1 : Nat) : Int) by omega, ih (i + 1) _ _ (by omega)]; rfl
      · rw [if_pos (by decide), y_E_234_160, y_E_234_165, show (i : Int) + 1 = ((i + 1 : Nat) : Int) by omega, ih (i + 1) _ _ (by omega)]; rfl
    · rw [if_neg (by decide), y_E_234_147]
      cases q_ac L w ((i : Int) - 1)
      · rw [if_neg (by decide), if_neg (by decide), y_E_234_160, y_E_234_165, show (i : Int) + 1 = ((i + 1 : Nat) : Int) by omega, ih (i + 1) _ _ (by omega)]; rfl
      · rw [if_pos (by decide), y_E_234_160, y_E_234_165, show (i : Int) + 1 = ((i + 1 : Nat) : Int) by omega, ih (i + 1) _ _ (by omega)]; rfl
theorem t_234n {x : Int} (hV : q_V m []) : y_V sp ph (d + 3) 234 [y_bo 11 0 49, y_bi x] m = y_rI 0 (y_sI (y_sI m 49 0 0) 49 0 1) := by
  have hV' : q_V (y_sI m 49 0 0) [] := q_V_F hV (q_F_sI (S := fun a k => a = 49 ∧ k = 0) ⟨rfl, rfl⟩) (fun a k r => by omega)
  have t230 := t_230b (sp := sp) (ph := ph) (d := d) (m := y_sI m 49 0 0) e_II hV'
  rw [y_C_234, y_E_234_0, t230, e_bI, if_pos (by decide), y_E_234_34]
theorem t_234r {x : Int} (hV : q_V m w) (hn : w ≠ []) (h0 : -2147483648 ≤ x) (h1 : x < 2147483648) (hx : ¬ (0 ≤ x ∧ x ≤ 4)) : y_V sp ph (d + 3) 234 [y_bo 11 0 49, y_bi x] m = y_rI 0 (y_sI (y_sI m 49 0 0) 49 0 2) := by
  have hV' : q_V (y_sI m 49 0 0) w := q_V_F hV (q_F_sI (S := fun a k => a = 49 ∧ k = 0) ⟨rfl, rfl⟩) (fun a k r => by omega)
  have t230 := t_230a (sp := sp) (ph := ph) (d := d) (m := y_sI m 49 0 0) e_II hV' hn
  have t180 := t_180 (sp := sp) (ph := ph) (d := d + 1) (m := y_sI m 49 0 0) (v := x) (lo := 0) (hi := 4) h0 h1 (by omega) (by omega) (by omega) (by omega)
  have t179 := t_179b (sp := sp) (ph := ph) (d := d + 1) (m := y_sI m 49 0 0) e_II (x := 2) (by omega) (by omega)
  rw [y_C_234, y_E_234_0, t230, e_bI, if_neg (by decide), t180, e_bI, decide_eq_false hx, if_neg (by decide), y_E_234_27, t179, e_bI, if_neg (by decide), y_E_234_34]
theorem t_234 {k s : Nat} {u : List Nat} (hU : u_R m L R A B t lw X w) (hw : w = s :: u) (hwb : ∀ h ∈ w, h < L + R) (hE : m_E L R (m_eu s s u)) (hk : k ≤ 4) : ∃ m', y_V sp ph (d + 6) 234 [y_bo 11 0 49, y_bi (k : Int)] m = y_rI (u_me L A B X w (m_eu s s u) k) m' ∧ q_F u_Rh m m' ∧ y_mI m' 49 0 = 0 := by
  have hn : w ≠ [] := by rw [hw]; exact List.cons_ne_nil _ _
  obtain ⟨hc, hX5, hX, hV⟩ := hU
  have hc0 := m_Ch_F hc (q_F_sI (S := fun a k => a = 49 ∧ k = 0) (m := m) (a := 49) (k := 0) (x := 0) ⟨rfl, rfl⟩) (fun a k q => by unfold q_wr; omega)
  have F0 : q_F u_Rh m (y_sI m 49 0 0) := q_F_sI (by unfold u_Rh; omega)
  have hV' : q_V (y_sI m 49 0 0) w := q_V_F hV (q_F_sI (S := fun a k => a = 49 ∧ k = 0) ⟨rfl, rfl⟩) (fun a k r => by omega)
  have eX : y_mI (y_sI m 49 0 0) 52 5 = X := by rw [e_II' (by omega)]; exact hX5
  have e00 : y_mI (y_sI m 49 0 0) 49 0 = 0 := e_II
  have t230 := t_230a (sp := sp) (ph := ph) (d := d + 3) (m := y_sI m 49 0 0) e_II hV' hn
  have t180 := t_180 (sp := sp) (ph := ph) (d := d + 4) (m := y_sI m 49 0 0) (v := (k : Int)) (lo := 0) (hi := 4) (by omega) (by omega) (by omega) (by omega) (by omega) (by omega)
  have t179 := t_179a (sp := sp) (ph := ph) (d := d + 4) (m := y_sI m 49 0 0) e_II (x := 2)
  have st : y_V sp ph (d + 6) 234 [y_bo 11 0 49, y_bi (k : Int)] m = y_R sp ph (d + 5) 234 36 [some (y_bo 11 0 49), some (y_bi (k : Int)), none, none, none, none, none] [] (y_sI m 49 0 0) := by
    rw [y_C_234, y_E_234_0, t230, e_bI, if_neg (by decide), t180, e_bI, decide_eq_true (show (0 : Int) ≤ (k : Int) ∧ (k : Int) ≤ 4 by omega), if_pos (by decide), y_E_234_26, y_E_234_27, t179, e_bI, if_pos (by decide)]
  rw [st]
  generalize y_sI m 49 0 0 = M at *
  obtain ⟨k0, k1, kA, kB, k4, k6, klw, kt4, kR, cB⟩ := hc0
  have hl1 := cB.1
  have hr1 := cB.2.1
  have hb12 : ∀ h ∈ w, h < 12 := fun h hh => by have := hwb h hh; omega
  have t232 := t_232 (sp := sp) (ph := ph) (d := d + 1) (m := M) (R := R) hV' hn hwb k0 kA kB cB.1 cB.2.1 cB.2.2.2.1 cB.2.2.2.2.2.1
  have ec : q_S (q_code L A B w) 0 w.length = (w_code L A B (m_eu s s u) : Int) := by rw [hw]; exact m_code_w
  rw [ec] at t232
  have fin : ∀ v M', q_F m_9 M M' → ∃ m', y_rI v M' = y_rI v m' ∧ q_F u_Rh m m' ∧ y_mI m' 49 0 = 0 := fun v M' F => ⟨M', rfl, q_F_trans F0 (q_F_mono F (fun a k r => by unfold m_9 at r; unfold u_Rh; omega)), by rw [q_F_I F 49 0 (by unfold m_9; omega)]; exact e00⟩
  have zk : z_w (k : Int) = (k : Int) := z_w_id (by omega) (by omega)
  rw [y_E_234_36, zk]
  rcases (show k = 0 ∨ k = 1 ∨ k = 2 ∨ k = 3 ∨ k = 4 by omega) with rfl | rfl | rfl | rfl | rfl
  · obtain ⟨m1, a1, a2⟩ := t_221L (sp := sp) (ph := ph) (d := d + 2) (m := M) kR cB hE
    rw [if_neg (by decide), t232, e_bL, if_pos (by decide), y_E_234_55, y_E_234_56, a1, e_bI]
    exact fin _ _ a2
  · obtain ⟨m1, a1, a2⟩ := t_221P (sp := sp) (ph := ph) (d := d + 2) (m := M) kR cB hE
    rw [if_neg (by decide), t232, e_bL, if_neg (by decide), y_E_234_56, a1, e_bI]
    exact fin _ _ a2
  · have l := l_234 (sp := sp) (ph := ph) (d := d + 3) (m := M) (x1 := ((2 : Nat) : Int)) hV' hn hb12 k0 hl1 w.length 0 0 0 (by omega)
    rw [Int.zero_add, Int.zero_add] at l
    have l' : y_R sp ph (d + 5) 234 89 [some (y_bo 11 0 49), some (y_bi ((2 : Nat) : Int)), some (y_bi 0), some (y_bi 0), some (y_bi 0), none, none] [] M = _ := l
    rw [if_pos (by decide), y_E_234_60, if_pos (by decide), y_E_234_82, l', y_E_234_173, if_neg (by decide), y_E_234_183]
    exact fin _ _ q_F_refl
  · have l := l_234 (sp := sp) (ph := ph) (d := d + 3) (m := M) (x1 := ((3 : Nat) : Int)) hV' hn hb12 k0 hl1 w.length 0 0 0 (by omega)
    rw [Int.zero_add, Int.zero_add] at l
    have l' : y_R sp ph (d + 5) 234 89 [some (y_bo 11 0 49), some (y_bi ((3 : Nat) : Int)), some (y_bi 0), some (y_bi 0), some (y_bi 0), none, none] [] M = _ := l
    rw [if_pos (by decide), y_E_234_60, if_pos (by decide), y_E_234_82, l', y_E_234_173, if_pos (by decide), y_E_234_182, y_E_234_183]
    exact fin _ _ q_F_refl
  · obtain ⟨m1, a1, a2⟩ := t_233 (sp := sp) (ph := ph) (d := d + 2) (m := M) (X := X) kR (m_code_lt cB hE) eX hX
    rw [m_fit1 cB hX hE] at a1
    rw [if_pos (by decide), y_E_234_60, if_neg (by decide), t232, e_bL, a1, e_bI]
    have ev : u_me L A B X w (m_eu s s u) 4 = n_b (!decide ((X : Int) * 281474976710656 + 64 < m_S 0 L A B (m_eu s s u))) := rfl
    rw [ev]
    cases decide ((X : Int) * 281474976710656 + 64 < m_S 0 L A B (m_eu s s u))
    · rw [if_neg (by decide), y_E_234_81]; exact fin 1 m1 a2
    · rw [if_pos (by decide), y_E_234_80, y_E_234_81]; exact fin 0 m1 a2
end Measure3
