/-! ===== span, measure ===== -/
section Fit
variable {L R A B X : Nat} {E : List (Nat × Nat)}
theorem m_nn (hB : m_B L R A B) (hE : m_E L R E) : 0 ≤ m_S 0 L A B E ∧ 0 ≤ - m_S 2 L A B E := by
  have f1 := m_dec_fx false hB hE
  have f2 := m_dec_fx true hB hE
  have p1 := (m_dec_D false hB hE).2.2
  have p2 := (m_dec_D true hB hE).2.2
  rw [q_fx_nat p1] at f1
  rw [q_fx_nat p2] at f2
  have t1 : 0 ≤ q_TT false := by decide
  have t2 : 0 ≤ q_TT true := by decide
  have := Int.mul_nonneg p1.1 t1
  have := Int.mul_nonneg p2.1 t2
  rw [m_S_eq, m_S_eq, if_pos rfl]
  rw [← f2]
  refine ⟨?_, by omega⟩
  show 0 ≤ w_S (w_f false L A B) _
  rw [← f1]; omega
theorem m_fit1 (hB : m_B L R A B) (hX : X ≤ 9999) (hE : m_E L R E) : decide (q_sn false A B (q_dX (w_code L A B E) X) ≤ 0) = !decide ((X : Int) * 281474976710656 + 64 < m_S 0 L A B E) := by
  obtain ⟨d1, d2, d3⟩ := m_dec_D false hB hE
  have hfx := m_dec_fx false hB hE
  have e : ∀ k, k < 6 → q_dX (w_code L A B E) X k = (fun k => q_dec false (w_code L A B E) k - (fun k => if k = 0 then (X : Int) else 0) k) k := fun k _ => rfl
  have hbox : q_box (q_dX (w_code L A B E) X) := by
    obtain ⟨c0, c1, c2, c3, c4, c5⟩ := w_b hB.1 hB.2.1 hE.1
    have w := w_wh_le (A := A) (B := B) hB.1 hB.2.1 hB.2.2.2.1 hB.2.2.2.2.2.1 (w_okb hE.1)
    have hl := hE.2
    have g0 := d1 0 (by decide)
    unfold w_d at g0
    simp only [reduceIte, Bool.false_eq_true] at g0
    unfold q_box at d2 ⊢
    unfold q_dX
    simp only [reduceIte, show ¬ (1 : Nat) = 0 by decide, show ¬ (2 : Nat) = 0 by decide, show ¬ (3 : Nat) = 0 by decide, show ¬ (4 : Nat) = 0 by decide, show ¬ (5 : Nat) = 0 by decide]
    omega
  have hx : q_fx false A B (q_dX (w_code L A B E) X) = m_S 0 L A B E - (X : Int) * 281474976710656 := by
    have eS : w_S (w_f false L A B) E = m_S 0 L A B E := by rw [m_S_eq]; rfl
    rw [q_fx_congr e, q_fx_sub, hfx, eS]
    unfold q_fx
    simp only [reduceIte, show ¬ (1 : Nat) = 0 by decide, show ¬ (2 : Nat) = 0 by decide, show ¬ (3 : Nat) = 0 by decide, show ¬ (4 : Nat) = 0 by decide, show ¬ (5 : Nat) = 0 by decide, show q_TT false = 281474976710656 from rfl, Int.zero_mul]
    omega
  have sep := q_sep false hB.2.2.2.2.2.2.1 hB.2.2.1 hB.2.2.2.2.2.2.2 hbox
  rw [hx] at sep
  rw [sep]
  by_cases c1 : 64 < m_S 0 L A B E - (X : Int) * 281474976710656
  · rw [if_pos c1, decide_eq_false (by decide), decide_eq_true (show (X : Int) * 281474976710656 + 64 < m_S 0 L A B E by omega)]; rfl
  · rw [if_neg c1, decide_eq_false (show ¬ (X : Int) * 281474976710656 + 64 < m_S 0 L A B E by omega)]
    refine decide_eq_true ?_
    split <;> omega
theorem m_E_1 {x y : Nat} (hx : x < L + R) (hy : y < L + R) (hxy : x ≠ y) : m_E L R [w_e x y] := by
  refine ⟨⟨List.nodup_cons.mpr ⟨List.not_mem_nil, List.nodup_nil⟩, fun e he => ?_⟩, by show 1 ≤ 20; omega⟩
  rw [List.mem_singleton] at he
  subst he
  unfold w_e
  split
  · exact ⟨by assumption, hy⟩
  · exact ⟨by show y < x; omega, hx⟩
end Fit
def u_cu (S : Int) : Int := (S + 64) * 1000 / 281474976710656
def u_cp (S : Int) : Int := (S + 64) * 1000000 / 288230376151711744
def u_me (L A B X : Nat) (w : List Nat) (E : List (Nat × Nat)) (k : Nat) : Int := match k with
  | 0 => u_cu (m_S 0 L A B E)
  | 1 => u_cp (- m_S 2 L A B E)
  | 2 => q_S (fun (i : Nat) => n_b (q_ac L w (i : Int))) 0 w.length
  | 3 => q_S (fun i => n_b (q_along L w i)) 0 w.length
  | _ => n_b (!decide ((X : Int) * 281474976710656 + 64 < m_S 0 L A B E))
section Measure2
variable {sp : Nat → Nat} {ph : Bool} {d : Nat} {m m' : y_m} {L R A B t lw X a b : Nat} {w : List Nat} {P : List (Nat × Nat)}
theorem s_141r {x y : Int} (hU : c_K m L R A B t lw X w) (h0 : -2147483648 ≤ x) (h1 : x < 2147483648) (h2 : -2147483648 ≤ y) (h3 : y < 2147483648) (hx : ¬ ((0 ≤ x ∧ x < L + R) ∧ (0 ≤ y ∧ y < L + R))) : y_V sp true (d + 4) 141 [y_bo 10 0 0, y_bi x, y_bi y] m = some (.inr 1, y_tm m) := by
  rw [y_C_141, y_E_141_0]
  by_cases c : 0 ≤ x ∧ x < L + R
  · have a := s_170y (sp := sp) (ph := true) (d := d) hU c.1 c.2
    have b := s_170n (sp := sp) (d := d) hU h2 h3 (fun r => hx ⟨c, r⟩)
    rw [a, e_bV, b]; rfl
  · have b := s_170n (sp := sp) (d := d) hU h0 h1 c
    rw [b]; rfl
theorem s_141s {x : Nat} (hU : c_K m L R A B t lw X w) (hx : x < L + R) : y_V sp true (d + 4) 141 [y_bo 10 0 0, y_bi (x : Int), y_bi (x : Int)] m = some (.inr 0, y_tm m) := by
  have a := s_170y (sp := sp) (ph := true) (d := d) (x := (x : Int)) hU (by omega) (by omega)
  rw [y_C_141, y_E_141_0, a, e_bV, a, e_bV, if_neg (fun r => r rfl)]; rfl
theorem s_141 {x y : Nat} (hU : u_C m L R A B t lw X w) (hx : x < L + R) (hy : y < L + R) (hxy : x ≠ y) : y_V sp ph (d + 4) 141 [y_bo 10 0 0, y_bi (x : Int), y_bi (y : Int)] m = y_rI (u_cu (m_S 0 L A B [w_e x y])) m := by
  have a := s_170y (sp := sp) (ph := ph) (d := d) (x := (x : Int)) hU.1 (by omega) (by omega)
  have b := s_170y (sp := sp) (ph := ph) (d := d) (x := (y : Int)) hU.1 (by omega) (by omega)
  have hQ := hU.2.2.1
  have hB := hQ.1
  have hl1 := hB.1
  have hr1 := hB.2.1
  have s52 := s_52 (sp := sp) (ph := ph) (d := d) (m := m) (b := y_mc m) (L := L) (R := R) (B := B) (x := x) (y := y) hQ.2.2.1 hB.1 hB.2.1 hx hy hQ.2.2.2.2.2.1 hB.2.2.2.2.2.1
  have hS : m_S 0 L A B [w_e x y] = w_f false L A B (w_e x y) := by
    show m_w 0 L A B (w_e x y) + 0 = _
    unfold m_w
    rw [if_neg (by decide), if_neg (by decide), Int.add_zero]
  rw [(r_len_Q hQ hx hy).1, ← hS] at s52
  have hE := m_E_1 hx hy hxy
  have nn := (m_nn hB hE).1
  have bb := (m_S_b (what := 0) hB (E := [w_e x y]) (fun e he => by have := hE.1.2 e he; omega)).2
  have s58 := s_58 (sp := sp) (ph := ph) (d := d + 2) (m := m) (x := m_S 0 L A B [w_e x y]) (by omega) (by rw [List.length_singleton] at bb; omega)
  rw [y_C_141, y_E_141_0, a, e_bV, b, e_bV, if_pos (by rw [z_w_id (by omega) (by omega), z_w_id (by omega) (by omega)]; omega), y_E_141_25, s52, e_bL, s58, e_bI]; rfl
theorem t_223r {x y : Int} (hL : y_mI m 52 0 = (L : Int)) (hR : y_mI m 52 1 = (R : Int)) (hl1 : L ≤ 6) (hr1 : R ≤ 6) (h0 : -2147483648 ≤ x) (h1 : x < 2147483648) (h2 : -2147483648 ≤ y) (h3 : y < 2147483648) (hx : ¬ ((0 ≤ x ∧ x < L + R) ∧ (0 ≤ y ∧ y < L + R))) : y_V sp ph (d + 2) 223 [y_bo 11 0 49, y_bi x, y_bi y] m = y_rI 0 (y_sI (y_sI m 49 0 0) 49 0 1) := by
  have e0 : y_mI (y_sI m 49 0 0) 49 0 = 0 := e_II
  have t199 := t_199 (sp := sp) (ph := ph) (d := d) (m := y_sI m 49 0 0)
  rw [e_II' (by omega), e_II' (by omega), hL, hR] at t199
  have t180 := fun v (a : -2147483648 ≤ v) (b : v < 2147483648) => t_180 (sp := sp) (ph := ph) (d := d) (m := y_sI m 49 0 0) (v := v) (lo := 0) (hi := (L : Int) + (R : Int) - 1) a b (by omega) (by omega) (by omega) (by omega)
  have t179 := t_179b (sp := sp) (ph := ph) (d := d) (m := y_sI m 49 0 0) e0 (x := 1) (by omega) (by omega)
  rw [y_C_223, y_E_223_0, t199, e_bI, t180 x h0 h1, e_bI]
  by_cases c : 0 ≤ x ∧ x ≤ (L : Int) + (R : Int) - 1
  · rw [decide_eq_true c, if_neg (by decide), t199, e_bI, t180 y h2 h3, e_bI, decide_eq_false (by omega), if_neg (by decide), y_E_223_34, y_E_223_39, t179, e_bI, if_pos (by decide), y_E_223_64]
  · rw [decide_eq_false c, if_pos (by decide), y_E_223_34, y_E_223_39, t179, e_bI, if_pos (by decide), y_E_223_64]
theorem l_223 {x y : Nat} (hL : y_mI m 52 0 = (L : Int)) (hR : y_mI m 52 1 = (R : Int)) (hl1 : L ≤ 6) (hr1 : R ≤ 6) (hx : x < L + R) (hy : y < L + R) : y_V sp ph (d + 3) 223 [y_bo 11 0 49, y_bi (x : Int), y_bi (y : Int)] m = if x = y then y_rI 0 (y_sI (y_sI m 49 0 0) 49 0 2) else y_R sp ph (d + 2) 223 66 [some (y_bo 11 0 49), some (y_bi (x : Int)), some (y_bi (y : Int))] [] (y_sI m 49 0 0) := by
  have e0 : y_mI (y_sI m 49 0 0) 49 0 = 0 := e_II
  have t199 := t_199 (sp := sp) (ph := ph) (d := d + 1) (m := y_sI m 49 0 0)
  rw [e_II' (by omega), e_II' (by omega), hL, hR] at t199
  have t180 := fun v (a : -2147483648 ≤ v) (b : v < 2147483648) => t_180 (sp := sp) (ph := ph) (d := d + 1) (m := y_sI m 49 0 0) (v := v) (lo := 0) (hi := (L : Int) + (R : Int) - 1) a b (by omega) (by omega) (by omega) (by omega)
  have t179a := fun x => t_179a (sp := sp) (ph := ph) (d := d + 1) (m := y_sI m 49 0 0) e0 (x := x)
  have t179b := t_179b (sp := sp) (ph := ph) (d := d + 1) (m := y_sI m 49 0 0) e0 (x := 2) (by omega) (by omega)
  rw [y_C_223, y_E_223_0, t199, e_bI, t180 x (by omega) (by omega), e_bI, decide_eq_true (show (0 : Int) ≤ (x : Int) ∧ (x : Int) ≤ (L : Int) + (R : Int) - 1 by omega), if_neg (by decide), t199, e_bI, t180 y (by omega) (by omega), e_bI, decide_eq_true (show (0 : Int) ≤ (y : Int) ∧ (y : Int) ≤ (L : Int) + (R : Int) - 1 by omega), if_pos (by decide), y_E_223_38, y_E_223_39, t179a 1, e_bI, if_neg (by decide)]
  by_cases c : x = y
  · rw [if_neg (fun r => r (by rw [c])), if_pos c, y_E_223_57, t179b, e_bI, if_neg (by decide), y_E_223_64]
  · rw [if_pos (by rw [z_w_id (by omega) (by omega), z_w_id (by omega) (by omega)]; omega), if_neg c, y_E_223_56, y_E_223_57, t179a 2, e_bI, if_pos (by decide)]
theorem t_223 {x y : Nat} (hU : u_R m L R A B t lw X w) (hx : x < L + R) (hy : y < L + R) (hxy : x ≠ y) : ∃ m', y_V sp ph (d + 4) 223 [y_bo 11 0 49, y_bi (x : Int), y_bi (y : Int)] m = y_rI (u_cu (m_S 0 L A B [w_e x y])) m' ∧ q_F u_Rh m m' ∧ y_mI m' 49 0 = 0 := by
  obtain ⟨hc, -⟩ := hU
  have hc0 := m_Ch_F hc (q_F_sI (S := fun a k => a = 49 ∧ k = 0) (m := m) (a := 49) (k := 0) (x := 0) ⟨rfl, rfl⟩) (fun a k q => by unfold q_wr; omega)
  obtain ⟨c0, c1, c2, c3, c4, c6, c7, c8, c9, cB⟩ := hc
  obtain ⟨k0, k1, kA, kB, k4, k6, klw, kt4, kR, _⟩ := hc0
  have t212 := t_212 (sp := sp) (ph := ph) (d := d) (m := y_sI m 49 0 0) (R := R) k0 kA kB cB.1 cB.2.1 hx hy cB.2.2.2.1 cB.2.2.2.2.2.1
  have hE := m_E_1 hx hy hxy
  have ecode : r_code L A B x y = w_code L A B [w_e x y] := by
    show _ = r_code L A B (w_e x y).1 (w_e x y).2 + 0
    rw [w_e_code, Nat.add_zero]
  rw [ecode] at t212
  obtain ⟨m1, a1, a2⟩ := t_221L (sp := sp) (ph := ph) (d := d) (m := y_sI m 49 0 0) kR cB hE
  refine ⟨m1, ?_, q_F_trans (q_F_sI (by unfold u_Rh; omega)) (q_F_mono a2 (fun a k r => by unfold m_9 at r; unfold u_Rh; omega)), by rw [q_F_I a2 49 0 (by unfold m_9; omega), e_II]⟩
  rw [l_223 (d := d + 1) c0 c1 cB.1 cB.2.1 hx hy, if_neg hxy, y_E_223_66, t212, e_bL, a1, e_bI]; rfl
theorem s_144n {x : Int} (h0 : -2147483648 ≤ x) (h1 : x < 2147483648) (hK : c_K m L R A B t lw X []) : y_V sp true (d + 2) 144 [y_bo 10 0 0, y_bi x] m = some (.inr 2, y_tm m) := by
  have s171 := s_171n (sp := sp) (d := d) (m := m) hK.2.2.2.2.2.2.2.2.2.2.2.2.2.2.1
  rw [y_C_144]
  by_cases c0 : x = 0
  · rw [y_E_144_0_0 _ _ _ _ (by rw [c0]; decide), s171]; rfl
  by_cases c1 : x = 1
  · rw [y_E_144_0_1 _ _ _ _ (by rw [c1]; decide), s171]; rfl
  by_cases c2 : x = 2
  · rw [y_E_144_0_2 _ _ _ _ (by rw [c2]; decide), s171]; rfl
  by_cases c3 : x = 3
  · rw [y_E_144_0_3 _ _ _ _ (by rw [c3]; decide), s171]; rfl
  by_cases c4 : x = 4
  · rw [y_E_144_0_4 _ _ _ _ (by rw [c4]; decide), s171]; rfl
  · rw [y_E_144_0_d _ _ _ _ (by rw [z_w_id h0 h1]; omega), s171]; rfl
theorem s_144r {x : Int} (h0 : -2147483648 ≤ x) (h1 : x < 2147483648) (hK : c_K m L R A B t lw X w) (hn : w ≠ []) (hx : ¬ (0 ≤ x ∧ x ≤ 4)) : y_V sp true (d + 2) 144 [y_bo 10 0 0, y_bi x] m = some (.inr 0, y_tm m) := by
  have s171 := s_171y (sp := sp) (ph := true) (d := d) (m := m) hK.2.2.2.2.2.2.2.2.2.2.2.2.2.2.1 hn
  rw [y_C_144, y_E_144_0_d _ _ _ _ (by rw [z_w_id h0 h1]; omega), s171, e_bV, y_E_144_151]; rfl
end Measure2
