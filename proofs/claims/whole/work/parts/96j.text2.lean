section Tape
variable {sp : Nat → Nat} {ph : Bool} {d : Nat} {m : y_m} {f : Nat → Int} {n p : Nat} {e q lo hi : Int}
/-- a number: 0 it stands there, or its fault -/
def u_nk (f : Nat → Int) (n : Nat) (lo hi : Int) (p : Nat) : Int := if u_di (u_c f n (u_sc u_bl f n p)) = false then 1 else if u_dw f n (u_sc u_bl f n p) 0 < lo ∨ hi < u_dw f n (u_sc u_bl f n p) 0 then 2 else 0
def u_nv (f : Nat → Int) (n p : Nat) : Int := u_dw f n (u_sc u_bl f n p) 0
def u_np (f : Nat → Int) (n p : Nat) : Nat := u_sc u_di f n (u_sc u_bl f n p)
theorem u_np_b (h : p ≤ n) : p ≤ u_np f n p ∧ u_np f n p ≤ n := by
  have a := u_sc_b (P := u_bl) (f := f) h
  have b := u_sc_b (P := u_di) (f := f) a.2
  unfold u_np; omega
theorem l_28 {ts : Int} : ∀ (k p : Nat) (v : Int) (m : y_m), p + k = n → u_TP m f n p e q → y_mI m 1 4 = ts → 0 ≤ v → v ≤ 100000 → ∃ m', y_R sp ph (d + 2) 28 23 [some (y_bo 6 0 1), some (y_bi lo), some (y_bi hi), some (y_bi v)] [] m = y_R sp ph (d + 2) 28 75 [some (y_bo 6 0 1), some (y_bi lo), some (y_bi hi), some (y_bi (u_dw f n p v))] [] m' ∧ q_F u_tf m m' ∧ u_TP m' f n (u_sc u_di f n p) e q ∧ y_mI m' 1 4 = ts := by
  intro k
  induction k with
  | zero =>
    intro p v m hp h ht h0 h1
    have hn := h.1.1
    have hc : u_di (u_c f n p) = false := by rw [u_c_end (by omega)]; rfl
    refine ⟨m, ?_, q_F_refl, by rw [u_sc_no hc]; exact h, ht⟩
    rw [u_dw_no hc, y_E_28_23, h.2.2.1, h.2.2.2.1, if_pos (by rw [z_w_id (by omega) (by omega), z_w_id (by omega) (by omega)]; omega)]
  | succ k ih =>
    intro p v m hp h ht h0 h1
    have hn := h.1.1
    have cb := u_c_b (p := p) h.1
    have s24 := s_24 (sp := sp) (ph := ph) (d := d) h
    have s26 := s_26 (sp := sp) (ph := ph) (d := d + 1) (m := m) cb.1 cb.2
    rw [y_E_28_23, h.2.2.1, h.2.2.2.1, if_neg (by rw [z_w_id (by omega) (by omega), z_w_id (by omega) (by omega)]; omega), s24, e_bI, s26, e_bI]
    cases c : u_di (u_c f n p)
    · refine ⟨m, ?_, q_F_refl, by rw [u_sc_no c]; exact h, ht⟩
      rw [u_dw_no c, if_pos (by decide)]
    · have cd := of_decide_eq_true c
      have s5 := s_5 (sp := sp) (ph := ph) (d := d + 1) (m := m) (x := 100000) (y := v * 10 + u_c f n p - 48) (by omega) (by omega) (by omega) (by omega)
      have ev : (if v * 10 + u_c f n p - 48 < 100000 then v * 10 + u_c f n p - 48 else 100000) = (if 10 * v + u_c f n p - 48 ≤ 100000 then 10 * v + u_c f n p - 48 else 100000) := by
        split <;> split <;> omega
      rw [ev] at s5
      obtain ⟨m2, a1, a2, a3, a4⟩ := ih (p + 1) (if 10 * v + u_c f n p - 48 ≤ 100000 then 10 * v + u_c f n p - 48 else 100000) (y_sI m 1 3 ((p : Int) + 1)) (by omega) (u_TP_sp h (by omega) (by omega)) (by rw [e_II' (by omega)]; exact ht) (by split <;> omega) (by split <;> omega)
      refine ⟨m2, ?_, q_F_trans (q_F_sI (by unfold u_tf; omega)) a2, by rw [(u_sc_yes rfl c).2]; exact a3, a4⟩
      rw [u_dw_yes c, if_neg (by decide), s24, e_bI, s5, e_bI, h.2.2.2.1]
      exact a1
theorem s_28 (h : u_TP m f n p e q) (hlo : -1000000 ≤ lo ∧ lo ≤ 1000000) (hhi : -1000000 ≤ hi ∧ hi ≤ 1000000) : ∃ m', y_V sp ph (d + 4) 28 [y_bo 6 0 1, y_bi lo, y_bi hi] m = y_rI (if u_nk f n lo hi p = 0 then u_nv f n p else lo) m' ∧ q_F u_tf m m' ∧ u_TP m' f n (u_np f n p) (if u_nk f n lo hi p = 0 then e else (u_fl e q (u_nk f n lo hi p) (u_sc u_bl f n p : Nat)).1) (if u_nk f n lo hi p = 0 then q else (u_fl e q (u_nk f n lo hi p) (u_sc u_bl f n p : Nat)).2) := by
  obtain ⟨m1, a1, a2, a3, a4⟩ := s_25 (sp := sp) (ph := ph) (d := d) h
  have cb := u_c_b (p := u_sc u_bl f n p) h.1
  have s24 := s_24 (sp := sp) (ph := ph) (d := d + 1) a3
  have s26 := s_26 (sp := sp) (ph := ph) (d := d + 2) (m := m1) cb.1 cb.2
  unfold u_nk u_np u_nv
  rw [y_C_28, y_E_28_0, a1, e_bV, s24, e_bI, s26, e_bI]
  cases c : u_di (u_c f n (u_sc u_bl f n p))
  · obtain ⟨m2, b1, b2, b3, b4⟩ := s_21 (sp := sp) (ph := ph) (d := d + 1) (k := 1) a3 (by omega) (by omega) a4
    simp only [reduceIte]
    refine ⟨m2, ?_, q_F_trans a2 b2, by rw [u_sc_no c, if_neg (by decide), if_neg (by decide)]; exact b3⟩
    rw [if_neg (by decide), b1, e_bV, if_neg (by decide)]
  · obtain ⟨m2, b1, b2, b3, b4⟩ := l_28 (sp := sp) (ph := ph) (d := d + 1) (lo := lo) (hi := hi) (n - u_sc u_bl f n p) (u_sc u_bl f n p) 0 m1 (by have := a3.2.1; omega) a3 a4 (by omega) (by omega)
    have vb := u_dw_b (f := f) (n := n) (p := u_sc u_bl f n p) (v := 0) (by omega) (by omega)
    have b1' := b1
    generalize u_dw f n (u_sc u_bl f n p) 0 = v at *
    have g : ¬ (true = false) := by decide
    simp only [if_neg g]
    have st : ∀ r, y_R sp ph (d + 3) 28 75 [some (y_bo 6 0 1), some (y_bi lo), some (y_bi hi), some (y_bi v)] [] m2 = r → (if ¬ z_w (n_b true) = 0 then y_R sp ph (d + 3) 28 21 [some (y_bo 6 0 1), some (y_bi lo), some (y_bi hi), none] [] m1 else y_bV (y_V sp ph (d + 3) 21 [y_bo 6 0 1, y_bi 1] m1) (fun m4 => y_rI lo m4) (fun e m1 => y_px e m1)) = r := by
      intro r hr
      rw [if_pos (by decide), y_E_28_21]
      exact b1'.trans hr
    by_cases o : v < lo ∨ hi < v
    · rw [if_pos o]
      obtain ⟨m3, c1, c2, c3, c4⟩ := s_21 (sp := sp) (ph := ph) (d := d + 1) (k := 2) b3 (by omega) (by omega) b4
      refine ⟨m3, ?_, q_F_trans a2 (q_F_trans b2 c2), by rw [if_neg (by decide), if_neg (by decide)]; exact c3⟩
      have e2 : (if (2 : Int) = 0 then v else lo) = lo := if_neg (by decide)
      rw [e2]
      refine st _ ?_
      rw [y_E_28_75, z_w_id (by omega) (by omega), z_w_id (by omega) (by omega), z_w_id (by omega) (by omega)]
      by_cases o1 : v < lo
      · rw [if_pos o1, y_E_28_85, c1, e_bV]
      · rw [if_neg o1, if_neg (by omega), y_E_28_85, c1, e_bV]
    · rw [if_neg o]
      refine ⟨m2, ?_, q_F_trans a2 b2, by rw [if_pos rfl, if_pos rfl]; exact b3⟩
      have e0 : (if (0 : Int) = 0 then v else lo) = v := if_pos rfl
      rw [e0]
      refine st _ ?_
      rw [y_E_28_75, z_w_id (by omega) (by omega), z_w_id (by omega) (by omega), z_w_id (by omega) (by omega), if_neg (by omega), if_pos (by omega), y_E_28_92]
theorem l_29 {ts : Int} : ∀ (k p : Nat) (m : y_m), p + k = n → u_TP m f n p e q → y_mI m 1 4 = ts → ∃ m', y_R sp ph (d + 2) 29 4 [some (y_bo 6 0 1)] [] m = y_R sp ph (d + 2) 29 38 [some (y_bo 6 0 1)] [] m' ∧ q_F u_tf m m' ∧ u_TP m' f n (u_sc u_le f n p) e q ∧ y_mI m' 1 4 = ts := by
  intro k
  induction k with
  | zero =>
    intro p m hp h ht
    have hn := h.1.1
    have hc : u_le (u_c f n p) = false := by rw [u_c_end (by omega)]; rfl
    refine ⟨m, ?_, q_F_refl, by rw [u_sc_no hc]; exact h, ht⟩
    rw [y_E_29_4, h.2.2.1, h.2.2.2.1, if_pos (by rw [z_w_id (by omega) (by omega), z_w_id (by omega) (by omega)]; omega)]
  | succ k ih =>
    intro p m hp h ht
    have hn := h.1.1
    have cb := u_c_b (p := p) h.1
    have s24 := s_24 (sp := sp) (ph := ph) (d := d) h
    have s27 := s_27 (sp := sp) (ph := ph) (d := d + 1) (m := m) cb.1 cb.2
    rw [y_E_29_4, h.2.2.1, h.2.2.2.1, if_neg (by rw [z_w_id (by omega) (by omega), z_w_id (by omega) (by omega)]; omega), s24, e_bI, s27, e_bI]
    cases c : u_le (u_c f n p)
    · refine ⟨m, ?_, q_F_refl, by rw [u_sc_no c]; exact h, ht⟩
      rw [if_pos (by decide)]
    · obtain ⟨m2, a1, a2, a3, a4⟩ := ih (p + 1) (y_sI m 1 3 ((p : Int) + 1)) (by omega) (u_TP_sp h (by omega) (by omega)) (by rw [e_II' (by omega)]; exact ht)
      refine ⟨m2, ?_, q_F_trans (q_F_sI (by unfold u_tf; omega)) a2, by rw [(u_sc_yes rfl c).2]; exact a3, a4⟩
      rw [if_neg (by decide), h.2.2.2.1]
      exact a1
/-- a word -/
def u_wp (f : Nat → Int) (n p : Nat) : Nat := u_sc u_le f n (u_sc u_bl f n p)
theorem s_29 (h : u_TP m f n p e q) : ∃ m', y_V sp ph (d + 4) 29 [y_bo 6 0 1] m = y_rV m' ∧ q_F u_tf m m' ∧ u_TP m' f n (u_wp f n p) (if u_wp f n p = u_sc u_bl f n p then (u_fl e q 1 (u_sc u_bl f n p : Nat)).1 else e) (if u_wp f n p = u_sc u_bl f n p then (u_fl e q 1 (u_sc u_bl f n p : Nat)).2 else q) ∧ y_mI m' 1 4 = (u_sc u_bl f n p : Nat) := by
  obtain ⟨m1, a1, a2, a3, a4⟩ := s_25 (sp := sp) (ph := ph) (d := d) h
  obtain ⟨m2, b1, b2, b3, b4⟩ := l_29 (sp := sp) (ph := ph) (d := d + 1) (n - u_sc u_bl f n p) (u_sc u_bl f n p) m1 (by have := a3.2.1; omega) a3 a4
  have hn := h.1.1
  have hp2 := b3.2.1
  have hp1 := a3.2.1
  unfold u_wp
  by_cases c : u_sc u_le f n (u_sc u_bl f n p) = u_sc u_bl f n p
  · obtain ⟨m3, c1, c2, c3, c4⟩ := s_21 (sp := sp) (ph := ph) (d := d + 1) (k := 1) b3 (by omega) (by omega) b4
    rw [if_pos c, if_pos c]
    refine ⟨m3, ?_, q_F_trans a2 (q_F_trans b2 c2), c3, c4⟩
    rw [y_C_29, y_E_29_0, a1, e_bV, b1, y_E_29_38, b3.2.2.2.1, b4, if_neg (by rw [c]; exact fun r => r rfl), c1, e_bV, y_E_29_54]
  · rw [if_neg c, if_neg c]
    refine ⟨m2, ?_, q_F_trans a2 b2, b3, b4⟩
    rw [y_C_29, y_E_29_0, a1, e_bV, b1, y_E_29_38, b3.2.2.2.1, b4, if_pos (by rw [z_w_id (by omega) (by omega), z_w_id (by omega) (by omega)]; omega), y_E_29_54]
theorem s_31 (h : u_TP m f n p e q) : ∃ m', y_V sp ph (d + 4) 31 [y_bo 6 0 1] m = y_rV m' ∧ q_F u_tf m m' ∧ u_TP m' f n (if u_c f n (u_sc u_bl f n p) = 59 then u_sc u_bl f n p + 1 else u_sc u_bl f n p) (if u_c f n (u_sc u_bl f n p) = 59 then e else (u_fl e q 1 (u_sc u_bl f n p : Nat)).1) (if u_c f n (u_sc u_bl f n p) = 59 then q else (u_fl e q 1 (u_sc u_bl f n p : Nat)).2) := by
  obtain ⟨m1, a1, a2, a3, a4⟩ := s_25 (sp := sp) (ph := ph) (d := d) h
  have cb := u_c_b (p := u_sc u_bl f n p) h.1
  have s24 := s_24 (sp := sp) (ph := ph) (d := d + 1) a3
  have hp1 := a3.2.1
  by_cases c : u_c f n (u_sc u_bl f n p) = 59
  · have hlt : u_sc u_bl f n p < n := by
      rcases Nat.lt_or_ge (u_sc u_bl f n p) n with r | r
      · exact r
      · rw [u_c_end r] at c; omega
    simp only [if_pos c]
    refine ⟨y_sI m1 1 3 ((u_sc u_bl f n p : Nat) + 1), ?_, q_F_trans a2 (q_F_sI (by unfold u_tf; omega)), u_TP_sp a3 (by omega) (by omega)⟩
    rw [y_C_31, y_E_31_0, a1, e_bV, s24, e_bI, if_neg (by rw [c]; decide), y_E_31_31, a3.2.2.2.1]
  · obtain ⟨m2, b1, b2, b3, b4⟩ := s_21 (sp := sp) (ph := ph) (d := d + 1) (k := 1) a3 (by omega) (by omega) a4
    simp only [if_neg c]
    refine ⟨m2, ?_, q_F_trans a2 b2, b3⟩
    rw [y_C_31, y_E_31_0, a1, e_bV, s24, e_bI, if_pos (by rw [z_w_id (by omega) (by omega)]; exact c), y_E_31_26, b1, e_bV, y_E_31_31]
/-- the five words -/
def u_wd (k : Nat) : List Int := match k with
  | 0 => [114, 111, 119, 115]
  | 1 => [97, 112, 97, 114, 116]
  | 2 => [116, 111, 114, 110]
  | 3 => [108, 97, 119]
  | _ => [108, 97, 99, 101]
theorem u_wd_txt : ∀ k, k < 5 → z_Txt.getD k [] = u_wd k := by decide
theorem s_900 {k : Nat} (hk : k < 5) : y_V sp ph (d + 1) 900 [y_bo 104 0 k] m = y_rI ((u_wd k).length : Int) m := by
  show y_bb2 (Nat.ble k 4) (y_rI ((z_Txt.getD k []).length : Int) m) = _
  rw [u_wd_txt k hk, show Nat.ble k 4 = true from Nat.ble_eq_true_of_le (by omega)]; rfl
theorem s_901 {k j : Nat} (hk : k < 5) (hj : j < (u_wd k).length) : y_V sp ph (d + 1) 901 [y_bo 104 0 k, y_bi (j : Int)] m = y_rI ((u_wd k).getD j 0) m := by
  show y_bb2 (Nat.ble k 4) (y_g (0 ≤ (j : Int) ∧ (j : Int) < ((z_Txt.getD k []).length : Int)) (y_rI ((z_Txt.getD k []).getD (j : Int).toNat 0) m)) = _
  rw [u_wd_txt k hk, show Nat.ble k 4 = true from Nat.ble_eq_true_of_le (by omega), e_bb, e_g ⟨by omega, by omega⟩, Int.toNat_natCast]
theorem u_wd_b : ∀ k, k < 5 → (u_wd k).length ≤ 5 ∧ ∀ j, j < 5 → 0 ≤ (u_wd k).getD j 0 ∧ (u_wd k).getD j 0 ≤ 122 := by decide
/-- the word that was read -/
def u_ie (f : Nat → Int) (p1 k : Nat) : Nat → Nat → Bool
  | 0, _ => true
  | c + 1, j => decide (f (p1 + j) = (u_wd k).getD j 0) && u_ie f p1 k c (j + 1)
def u_is (f : Nat → Int) (p1 p2 k : Nat) : Bool := decide (p2 - p1 = (u_wd k).length) && u_ie f p1 k (u_wd k).length 0
theorem l_30 {k p1 : Nat} (hk : k < 5) (h : u_TP m f n p e q) (ht : y_mI m 1 4 = p1) (hp : p1 + (u_wd k).length = p) : ∀ (c j : Nat), j + c = (u_wd k).length → y_R sp ph (d + 1) 30 20 [some (y_bo 6 0 1), some (y_bo 104 0 k), some (y_bi (j : Int))] [] m = y_rI (n_b (u_ie f p1 k c j)) m := by
  have wl := u_wd_b k hk
  have hn := h.1.1
  have hpn := h.2.1
  intro c
  induction c with
  | zero =>
    intro j hj
    have s900 := s_900 (sp := sp) (ph := ph) (d := d) (m := m) hk
    rw [y_E_30_20, s900, e_bI, if_pos (by rw [z_w_id (by omega) (by omega), z_w_id (by omega) (by omega)]; omega), y_E_30_57]; rfl
  | succ c ih =>
    intro j hj
    have s900 := s_900 (sp := sp) (ph := ph) (d := d) (m := m) hk
    have s901 := s_901 (sp := sp) (ph := ph) (d := d) (m := m) hk (show j < (u_wd k).length by omega)
    have s7 := s_7 (sp := sp) (ph := ph) (d := d) (m := m) (n := 400) (a := 2) (x := ((p1 + j : Nat) : Int)) (by omega) (by omega) (by omega)
    rw [Int.toNat_natCast, h.2.2.2.2.2.2.2.2 (p1 + j) (by omega)] at s7
    have fb := h.1.2 (p1 + j) (by omega)
    have wb := wl.2 j (by omega)
    rw [y_E_30_20, s900, e_bI, if_neg (by rw [z_w_id (by omega) (by omega), z_w_id (by omega) (by omega)]; omega), ht, show (p1 : Int) + (j : Int) = ((p1 + j : Nat) : Int) by omega, s7, e_bI, s901, e_bI, z_w_id (by omega) (by omega), z_w_id (by omega) (by omega), u_ie]
    by_cases q : f (p1 + j) = (u_wd k).getD j 0
    · rw [if_pos q, y_E_30_51, show (j : Int) + 1 = ((j + 1 : Nat) : Int) by omega, ih (j + 1) (by omega), decide_eq_true q, Bool.true_and]
    · rw [if_neg q, decide_eq_false q]; rfl
theorem s_30 {k p1 : Nat} (hk : k < 5) (h : u_TP m f n p e q) (ht : y_mI m 1 4 = p1) (hp : p1 ≤ p) : y_V sp ph (d + 2) 30 [y_bo 6 0 1, y_bo 104 0 k] m = y_rI (n_b (u_is f p1 p k)) m := by
  have wl := u_wd_b k hk
  have hn := h.1.1
  have hpn := h.2.1
  have s900 := s_900 (sp := sp) (ph := ph) (d := d) (m := m) hk
  unfold u_is
  rw [y_C_30, y_E_30_0, s900, e_bI, h.2.2.2.1, ht]
  by_cases c : p - p1 = (u_wd k).length
  · have l := l_30 (sp := sp) (ph := ph) (d := d) hk h ht (by omega) (u_wd k).length 0 (by omega)
    rw [if_pos (by rw [z_w_id (by omega) (by omega), z_w_id (by omega) (by omega)]; omega), y_E_30_18, decide_eq_true c, Bool.true_and]
    exact l
  · rw [if_neg (by rw [z_w_id (by omega) (by omega), z_w_id (by omega) (by omega)]; omega), decide_eq_false c]; rfl
/-- which word: 5, none -/
def u_wk (f : Nat → Int) (p1 p2 : Nat) : Nat := if u_is f p1 p2 0 then 0 else if u_is f p1 p2 1 then 1 else if u_is f p1 p2 2 then 2 else if u_is f p1 p2 3 then 3 else if u_is f p1 p2 4 then 4 else 5
theorem s_36 {p1 : Nat} (h : u_TP m f n p e q) (ht : y_mI m 1 4 = p1) (hp : p1 ≤ p) : y_V sp ph (d + 3) 36 [y_bo 6 0 1] m = y_rI (if u_wk f p1 p = 5 then -1 else (u_wk f p1 p : Int)) m := by
  have w0 := s_30 (sp := sp) (ph := ph) (d := d) (show 0 < 5 by omega) h ht hp
  have w1 := s_30 (sp := sp) (ph := ph) (d := d) (show 1 < 5 by omega) h ht hp
  have w2 := s_30 (sp := sp) (ph := ph) (d := d) (show 2 < 5 by omega) h ht hp
  have w3 := s_30 (sp := sp) (ph := ph) (d := d) (show 3 < 5 by omega) h ht hp
  have w4 := s_30 (sp := sp) (ph := ph) (d := d) (show 4 < 5 by omega) h ht hp
  unfold u_wk
  rw [y_C_36, y_E_36_0, w0, e_bI]
  cases u_is f p1 p 0
  · rw [if_pos (by decide), y_E_36_11, w1, e_bI]
    cases u_is f p1 p 1
    · rw [if_pos (by decide), y_E_36_22, w2, e_bI]
      cases u_is f p1 p 2
      · rw [if_pos (by decide), y_E_36_33, w3, e_bI]
        cases u_is f p1 p 3
        · rw [if_pos (by decide), y_E_36_44, w4, e_bI]
          cases u_is f p1 p 4
          · rw [if_pos (by decide), y_E_36_57, y_E_36_58]; rfl
          · rw [if_neg (by decide), y_E_36_58]; rfl
        · rw [if_neg (by decide)]; rfl
      · rw [if_neg (by decide)]; rfl
    · rw [if_neg (by decide)]; rfl
  · rw [if_neg (by decide)]; rfl
end Tape
