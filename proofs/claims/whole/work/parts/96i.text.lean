/-! ===== texts: what is read, on both sides ===== -/
def u_c (f : Nat → Int) (n p : Nat) : Int := if p < n then f p else -1
def u_bl (x : Int) : Bool := decide (x = 32)
def u_di (x : Int) : Bool := decide (48 ≤ x ∧ x ≤ 57)
def u_le (x : Int) : Bool := decide (97 ≤ x ∧ x ≤ 122)
def u_sk (P : Int → Bool) (f : Nat → Int) (n : Nat) : Nat → Nat → Nat
  | 0, p => p
  | k + 1, p => if P (u_c f n p) = true then u_sk P f n k (p + 1) else p
def u_sc (P : Int → Bool) (f : Nat → Int) (n p : Nat) : Nat := u_sk P f n (n - p) p
def u_dv (f : Nat → Int) (n : Nat) : Nat → Nat → Int → Int
  | 0, _, v => v
  | k + 1, p, v => if u_di (u_c f n p) = true then u_dv f n k (p + 1) (if 10 * v + u_c f n p - 48 ≤ 100000 then 10 * v + u_c f n p - 48 else 100000) else v
def u_tx (f : Nat → Int) (n : Nat) : Prop := n ≤ 400 ∧ ∀ i, i < n → 0 ≤ f i ∧ f i < 256
section Text
variable {f : Nat → Int} {n p : Nat} {P : Int → Bool}
theorem u_c_b (h : u_tx f n) : -1 ≤ u_c f n p ∧ u_c f n p < 256 := by
  unfold u_c
  split
  · have := h.2 p (by assumption); omega
  · omega
theorem u_c_end (h : n ≤ p) : u_c f n p = -1 := by unfold u_c; rw [if_neg (by omega)]
theorem u_sk_b : ∀ (k p : Nat), p ≤ u_sk P f n k p ∧ u_sk P f n k p ≤ p + k
  | 0, p => ⟨Nat.le_refl _, Nat.le_refl _⟩
  | k + 1, p => by
    rw [u_sk]
    split
    · have := u_sk_b k (p + 1); omega
    · omega
theorem u_sc_b (h : p ≤ n) : p ≤ u_sc P f n p ∧ u_sc P f n p ≤ n := by
  have := u_sk_b (P := P) (f := f) (n := n) (n - p) p
  unfold u_sc; omega
theorem u_sc_yes (hp : P (-1) = false) (h : P (u_c f n p) = true) : p < n ∧ u_sc P f n p = u_sc P f n (p + 1) := by
  have hlt : p < n := by
    rcases Nat.lt_or_ge p n with q | q
    · exact q
    · rw [u_c_end q, hp] at h; cases h
  refine ⟨hlt, ?_⟩
  unfold u_sc
  rw [show n - p = (n - (p + 1)) + 1 by omega, u_sk, if_pos h]
theorem u_sc_no (h : P (u_c f n p) = false) : u_sc P f n p = p := by
  unfold u_sc
  cases k : n - p
  · rfl
  · rw [u_sk, h, if_neg (by decide)]
theorem u_sc_stop (hp : P (-1) = false) : ∀ (k p : Nat), p + k = n → P (u_c f n (u_sc P f n p)) = false := by
  intro k
  induction k with
  | zero =>
    intro p h
    have : u_c f n p = -1 := u_c_end (by omega)
    rw [u_sc_no (by rw [this]; exact hp), this]; exact hp
  | succ k ih =>
    intro p h
    cases q : P (u_c f n p)
    · rw [u_sc_no q]; exact q
    · rw [(u_sc_yes hp q).2]; exact ih (p + 1) (by omega)
theorem u_sc_end (hp : P (-1) = false) (h : p ≤ n) : P (u_c f n (u_sc P f n p)) = false := u_sc_stop hp (n - p) p (by omega)
def u_dw (f : Nat → Int) (n p : Nat) (v : Int) : Int := u_dv f n (n - p) p v
theorem u_dw_yes {v : Int} (h : u_di (u_c f n p) = true) : u_dw f n p v = u_dw f n (p + 1) (if 10 * v + u_c f n p - 48 ≤ 100000 then 10 * v + u_c f n p - 48 else 100000) := by
  have hlt : p < n := by
    rcases Nat.lt_or_ge p n with q | q
    · exact q
    · rw [u_c_end q] at h; cases h
  unfold u_dw
  rw [show n - p = (n - (p + 1)) + 1 by omega, u_dv, if_pos h]
theorem u_dw_no {v : Int} (h : u_di (u_c f n p) = false) : u_dw f n p v = v := by
  unfold u_dw
  cases k : n - p
  · rfl
  · rw [u_dv, h, if_neg (by decide)]
theorem u_dv_b : ∀ (k p : Nat) (v : Int), 0 ≤ v → v ≤ 100000 → 0 ≤ u_dv f n k p v ∧ u_dv f n k p v ≤ 100000
  | 0, _, v, h0, h1 => ⟨h0, h1⟩
  | k + 1, p, v, h0, h1 => by
    rw [u_dv]
    split
    · rename_i h
      have := of_decide_eq_true h
      refine u_dv_b k (p + 1) _ ?_ ?_ <;> split <;> omega
    · exact ⟨h0, h1⟩
theorem u_dw_b {v : Int} (h0 : 0 ≤ v) (h1 : v ≤ 100000) : 0 ≤ u_dw f n p v ∧ u_dw f n p v ≤ 100000 := u_dv_b _ _ _ h0 h1
end Text
/-- the first fault stays -/
def u_fl (e q : Int) (k w : Int) : Int × Int := if e = 0 then (k, w) else (e, q)
/-- the class's tape while it reads -/
def u_TP (m : y_m) (f : Nat → Int) (n p : Nat) (e q : Int) : Prop := u_tx f n ∧ p ≤ n ∧ y_mI m 1 2 = n ∧ y_mI m 1 3 = p ∧ y_mI m 1 5 = e ∧ y_mI m 1 6 = q ∧ 0 ≤ e ∧ e ≤ 9 ∧ ∀ i, i < n → y_mI m 2 i = f i
def u_tf (a k : Nat) : Prop := a = 1 ∧ 3 ≤ k ∧ k ≤ 6
section Tape
variable {sp : Nat → Nat} {ph : Bool} {d : Nat} {m : y_m} {f : Nat → Int} {n p : Nat} {e q : Int}
theorem u_TP_sp {p' : Nat} {x : Int} (h : u_TP m f n p e q) (hp : p' ≤ n) (hx : x = p') : u_TP (y_sI m 1 3 x) f n p' e q := by
  obtain ⟨h1, h2, h3, h4, h5, h6, h7, h8, h9⟩ := h
  exact ⟨h1, hp, by rw [e_II' (by omega)]; exact h3, by rw [e_II]; exact hx, by rw [e_II' (by omega)]; exact h5, by rw [e_II' (by omega)]; exact h6, h7, h8, fun i hi => by rw [e_II' (by omega)]; exact h9 i hi⟩
theorem u_TP_st {x : Int} (h : u_TP m f n p e q) : u_TP (y_sI m 1 4 x) f n p e q := by
  obtain ⟨h1, h2, h3, h4, h5, h6, h7, h8, h9⟩ := h
  exact ⟨h1, h2, by rw [e_II' (by omega)]; exact h3, by rw [e_II' (by omega)]; exact h4, by rw [e_II' (by omega)]; exact h5, by rw [e_II' (by omega)]; exact h6, h7, h8, fun i hi => by rw [e_II' (by omega)]; exact h9 i hi⟩
theorem u_TP_F {Q : Nat → Nat → Prop} {m' : y_m} (h : u_TP m f n p e q) (hF : q_F Q m m') (hQ : ∀ a k, Q a k → a ≠ 1 ∧ a ≠ 2) : u_TP m' f n p e q := by
  obtain ⟨h1, h2, h3, h4, h5, h6, h7, h8, h9⟩ := h
  have e1 : ∀ k, y_mI m' 1 k = y_mI m 1 k := fun k => q_F_I hF 1 k (fun r => (hQ _ _ r).1 rfl)
  exact ⟨h1, h2, by rw [e1]; exact h3, by rw [e1]; exact h4, by rw [e1]; exact h5, by rw [e1]; exact h6, h7, h8, fun i hi => by rw [q_F_I hF 2 i (fun r => (hQ _ _ r).2 rfl)]; exact h9 i hi⟩
theorem s_24 (h : u_TP m f n p e q) : y_V sp ph (d + 2) 24 [y_bo 6 0 1] m = y_rI (u_c f n p) m := by
  obtain ⟨h1, h2, h3, h4, h5, h6, h7, h8, h9⟩ := h
  have hn := h1.1
  unfold u_c
  by_cases c : p < n
  · have s7 := s_7 (sp := sp) (ph := ph) (d := d) (m := m) (n := 400) (a := 2) (x := (p : Int)) (by omega) (by omega) (by omega)
    rw [y_C_24, y_E_24_0, h3, h4, if_neg (by rw [z_w_id (by omega) (by omega), z_w_id (by omega) (by omega)]; omega), s7, e_bI, y_E_24_26, Int.toNat_natCast, h9 p c, if_pos c]
  · rw [y_C_24, y_E_24_0, h3, h4, if_pos (by rw [z_w_id (by omega) (by omega), z_w_id (by omega) (by omega)]; omega), y_E_24_25, y_E_24_26, if_neg c]
theorem s_26 {x : Int} (h0 : -1 ≤ x) (h1 : x < 256) : y_V sp ph (d + 1) 26 [y_bi x] m = y_rI (n_b (u_di x)) m := by
  unfold u_di
  rw [y_C_26, y_E_26_0, z_w_id (by omega) (by omega)]
  by_cases a : x < 48
  · rw [if_pos a, y_E_26_16, y_E_26_17, e_g (Or.inl rfl), decide_eq_false (by omega)]; rfl
  · by_cases b : 57 < x
    · rw [if_neg a, if_pos b, y_E_26_16, y_E_26_17, e_g (Or.inl rfl), decide_eq_false (by omega)]; rfl
    · rw [if_neg a, if_neg b, y_E_26_17, e_g (Or.inr rfl), decide_eq_true (by omega)]; rfl
theorem s_27 {x : Int} (h0 : -1 ≤ x) (h1 : x < 256) : y_V sp ph (d + 1) 27 [y_bi x] m = y_rI (n_b (u_le x)) m := by
  unfold u_le
  rw [y_C_27, y_E_27_0, z_w_id (by omega) (by omega)]
  by_cases a : x < 97
  · rw [if_pos a, y_E_27_16, y_E_27_17, e_g (Or.inl rfl), decide_eq_false (by omega)]; rfl
  · by_cases b : 122 < x
    · rw [if_neg a, if_pos b, y_E_27_16, y_E_27_17, e_g (Or.inl rfl), decide_eq_false (by omega)]; rfl
    · rw [if_neg a, if_neg b, y_E_27_17, e_g (Or.inr rfl), decide_eq_true (by omega)]; rfl
theorem s_20 {k w : Int} (h : u_TP m f n p e q) (hk : 0 ≤ k) (hk' : k ≤ 9) : ∃ m', y_V sp ph (d + 1) 20 [y_bo 6 0 1, y_bi k, y_bi w] m = y_rV m' ∧ q_F u_tf m m' ∧ u_TP m' f n p (u_fl e q k w).1 (u_fl e q k w).2 ∧ y_mI m' 1 4 = y_mI m 1 4 := by
  obtain ⟨h1, h2, h3, h4, h5, h6, h7, h8, h9⟩ := h
  unfold u_fl
  by_cases c : e = 0
  · rw [if_pos c]
    refine ⟨y_sI (y_sI m 1 5 k) 1 6 w, ?_, q_F_trans (q_F_sI (by unfold u_tf; omega)) (q_F_sI (by unfold u_tf; omega)), ⟨h1, h2, ?_, ?_, ?_, ?_, hk, hk', fun i hi => ?_⟩, ?_⟩
    · rw [y_C_20, y_E_20_0, h5, if_neg (by rw [c]; decide), y_E_20_17]
    · rw [e_II' (by omega), e_II' (by omega)]; exact h3
    · rw [e_II' (by omega), e_II' (by omega)]; exact h4
    · rw [e_II' (by omega), e_II]
    · rw [e_II]
    · rw [e_II' (by omega), e_II' (by omega)]; exact h9 i hi
    · rw [e_II' (by omega), e_II' (by omega)]
  · rw [if_neg c]
    refine ⟨m, ?_, q_F_refl, ⟨h1, h2, h3, h4, h5, h6, h7, h8, h9⟩, rfl⟩
    rw [y_C_20, y_E_20_0, h5, if_pos (by rw [z_w_id (by omega) (by omega)]; exact c), y_E_20_17]
theorem s_21 {k w : Int} (h : u_TP m f n p e q) (hk : 0 ≤ k) (hk' : k ≤ 9) (hw : y_mI m 1 4 = w) : ∃ m', y_V sp ph (d + 2) 21 [y_bo 6 0 1, y_bi k] m = y_rV m' ∧ q_F u_tf m m' ∧ u_TP m' f n p (u_fl e q k w).1 (u_fl e q k w).2 ∧ y_mI m' 1 4 = w := by
  obtain ⟨m1, a1, a2, a3, a4⟩ := s_20 (sp := sp) (ph := ph) (d := d) (k := k) (w := w) h hk hk'
  refine ⟨m1, ?_, a2, a3, by rw [a4]; exact hw⟩
  rw [y_C_21, y_E_21_0, hw, a1, e_bV]
theorem s_22 {k : Int} (h : u_TP m f n p e q) (hk : 0 ≤ k) (hk' : k ≤ 9) : ∃ m', y_V sp ph (d + 2) 22 [y_bo 6 0 1, y_bi k] m = y_rV m' ∧ q_F u_tf m m' ∧ u_TP m' f n p (u_fl e q k n).1 (u_fl e q k n).2 := by
  obtain ⟨m1, a1, a2, a3, a4⟩ := s_20 (sp := sp) (ph := ph) (d := d) (k := k) (w := (n : Int)) h hk hk'
  refine ⟨m1, ?_, a2, a3⟩
  rw [y_C_22, y_E_22_0, h.2.2.1, a1, e_bV]
theorem l_25 : ∀ (k p : Nat) (m : y_m), p + k = n → u_TP m f n p e q → ∃ m', y_R sp ph (d + 2) 25 0 [some (y_bo 6 0 1)] [] m = y_rV m' ∧ q_F u_tf m m' ∧ u_TP m' f n (u_sc u_bl f n p) e q ∧ y_mI m' 1 4 = (u_sc u_bl f n p : Nat) := by
  intro k
  induction k with
  | zero =>
    intro p m hp h
    have h' := h
    obtain ⟨h1, h2, h3, h4, h5, h6, h7, h8, h9⟩ := h'
    have hn := h1.1
    have e0 : u_sc u_bl f n p = p := u_sc_no (by rw [u_c_end (by omega)]; rfl)
    rw [e0]
    refine ⟨y_sI m 1 4 (p : Int), ?_, q_F_sI (by unfold u_tf; omega), u_TP_st h, e_II⟩
    rw [y_E_25_0, h3, h4, if_pos (by rw [z_w_id (by omega) (by omega), z_w_id (by omega) (by omega)]; omega), y_E_25_40, h4]
  | succ k ih =>
    intro p m hp h
    have h' := h
    obtain ⟨h1, h2, h3, h4, h5, h6, h7, h8, h9⟩ := h'
    have hn := h1.1
    have hb := h1.2 p (by omega)
    have s7 := s_7 (sp := sp) (ph := ph) (d := d + 1) (m := m) (n := 400) (a := 2) (x := (p : Int)) (by omega) (by omega) (by omega)
    rw [Int.toNat_natCast, h9 p (by omega)] at s7
    have ec : u_c f n p = f p := by unfold u_c; rw [if_pos (by omega)]
    rw [y_E_25_0, h3, h4, if_neg (by rw [z_w_id (by omega) (by omega), z_w_id (by omega) (by omega)]; omega), s7, e_bI]
    by_cases c : f p = 32
    · have hy : u_bl (u_c f n p) = true := by rw [ec]; exact decide_eq_true c
      obtain ⟨m2, a1, a2, a3, a4⟩ := ih (p + 1) (y_sI m 1 3 ((p : Int) + 1)) (by omega) (u_TP_sp h (by omega) (by omega))
      rw [(u_sc_yes rfl hy).2]
      refine ⟨m2, ?_, q_F_trans (q_F_sI (by unfold u_tf; omega)) a2, a3, a4⟩
      rw [if_neg (by rw [z_w_id (by omega) (by omega)]; omega), h4]
      exact a1
    · have hy : u_bl (u_c f n p) = false := by rw [ec]; exact decide_eq_false c
      rw [u_sc_no hy]
      refine ⟨y_sI m 1 4 (p : Int), ?_, q_F_sI (by unfold u_tf; omega), u_TP_st h, e_II⟩
      rw [if_pos (by rw [z_w_id (by omega) (by omega)]; exact c), y_E_25_40, h4]
theorem s_25 (h : u_TP m f n p e q) : ∃ m', y_V sp ph (d + 3) 25 [y_bo 6 0 1] m = y_rV m' ∧ q_F u_tf m m' ∧ u_TP m' f n (u_sc u_bl f n p) e q ∧ y_mI m' 1 4 = (u_sc u_bl f n p : Nat) := by
  rw [y_C_25]
  exact l_25 (n - p) p m (by have := h.2.1; omega) h
theorem s_17 (h : u_TP m f n p e q) : y_V sp ph (d + 1) 17 [y_bo 6 0 1] m = y_rI (n_b (decide (e ≠ 0))) m := by
  obtain ⟨h1, h2, h3, h4, h5, h6, h7, h8, h9⟩ := h
  by_cases c : e = 0
  · rw [y_C_17, y_E_17_0, h5, if_pos (by rw [c]; decide), y_E_17_11, y_E_17_12, e_g (Or.inl rfl), decide_eq_false (fun r => r c)]; rfl
  · rw [y_C_17, y_E_17_0, h5, if_neg (by rw [z_w_id (by omega) (by omega)]; exact c), y_E_17_12, e_g (Or.inr rfl), decide_eq_true c]; rfl
theorem s_23 (h : u_TP m f n p e q) : ∃ m', y_V sp ph (d + 4) 23 [y_bo 6 0 1] m = y_rI (n_b (decide (n ≤ u_sc u_bl f n p))) m' ∧ q_F u_tf m m' ∧ u_TP m' f n (u_sc u_bl f n p) e q ∧ y_mI m' 1 4 = (u_sc u_bl f n p : Nat) := by
  obtain ⟨m1, a1, a2, a3, a4⟩ := s_25 (sp := sp) (ph := ph) (d := d) h
  have hn := h.1.1
  have hp := a3.2.1
  refine ⟨m1, ?_, a2, a3, a4⟩
  rw [y_C_23, y_E_23_0, a1, e_bV, a3.2.2.1, a3.2.2.2.1, z_w_id (by omega) (by omega), z_w_id (by omega) (by omega)]
  by_cases c : u_sc u_bl f n p < n
  · rw [if_pos (by omega), y_E_23_19, y_E_23_20, e_g (Or.inl rfl), decide_eq_false (by omega)]; rfl
  · rw [if_neg (by omega), y_E_23_20, e_g (Or.inr rfl), decide_eq_true (by omega)]; rfl
end Tape
