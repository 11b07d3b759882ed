section Two
variable {sp : Nat → Nat} {ph : Bool} {d : Nat} {m : y_m} {L R A B t lw X T W c : Nat} {w : List Nat}
/-- what the reference holds of its rounds home -/
def m_Hm (m : y_m) (L R A B lw t : Nat) : Prop := m_Ch m L R A B lw t ∧ ∀ T, T < 4096 → m_rf 0 L A B (y_mJ m 100 T) (m_hx lw L (c_wh L R t) T)
theorem m_Hm_9 {m' : y_m} (h : m_Hm m L R A B lw t) (hF : q_F m_9 m m') : m_Hm m' L R A B lw t := ⟨m_Ch_F h.1 hF (fun a k q => by unfold m_9 at q; unfold q_wr; omega), fun T hT => by rw [q_F_J hF 100 T (by unfold m_9; omega)]; exact h.2 T hT⟩
theorem m_Hm_b (h : m_Hm m L R A B lw t) (hT : T < 4096) : -1 ≤ y_mJ m 100 T ∧ y_mJ m 100 T < 167772160000 := by
  have hB := h.1.2.2.2.2.2.2.2.2.2
  exact m_rf_b hB (fun E g => (m_hx_E (c_wh_lt hB.1 hB.2.1) (fun j hj => c_wh_in hj) g).1) (h.2 T hT)
theorem t_264 (h : m_Hm m L R A B lw t) (hc : c < 4096) : y_V sp ph (d + 3) 264 [y_bo 11 0 49, y_bi (c : Int)] m = y_rI (n_b (decide (m_r2 (y_mJ m 100) (c_wh L R t) c ≠ -1))) m := by
  have hB := h.1.2.2.2.2.2.2.2.2.2
  have hWl := c_wh_lt (t := t) hB.1 hB.2.1
  have hb := n_bd_le (c_wh L R t) c
  have k1 := m_Hm_b h hc
  have k2 := m_Hm_b (T := n_bd (c_wh L R t) c) h (by omega)
  obtain ⟨g0, g1, _, _, _, g6, _, g7, _⟩ := h.1
  have t200 := t_200 (sp := sp) (ph := ph) (d := d) (m := m) g0 g1 g6 hB.1 hB.2.1 g7
  have t200' : y_V sp ph (d + 2) 200 [y_bo 11 0 49] m = y_rI (c_wh L R t : Int) m := t200
  have en : z_iand (c_wh L R t : Int) (z_ixor (c : Int) (-1)) = ((n_bd (c_wh L R t) c : Nat) : Int) := n_not (by omega) (by omega)
  have key : ∀ (w : Nat) (r : y_Rs), w < 4096 → y_g (0 ≤ (w : Int) ∧ (w : Int) < (4096 : Int)) r = r := fun w r h => e_g ⟨by omega, by omega⟩
  have l1 : (z_w (z_lcmp (y_mJ m 100 c) (-1)) = 0) = (y_mJ m 100 c = -1) := n_lc_eq (by omega) (by omega) (by omega) (by omega)
  have l2 : (z_w (z_lcmp (y_mJ m 100 (n_bd (c_wh L R t) c)) (-1)) = 0) = (y_mJ m 100 (n_bd (c_wh L R t) c) = -1) := n_lc_eq (by omega) (by omega) (by omega) (by omega)
  rw [y_C_264, y_E_264_0, key _ _ hc, Int.toNat_natCast]
  unfold m_r2
  by_cases q1 : y_mJ m 100 c = -1
  · rw [if_pos (by rw [l1]; exact q1), if_pos (Or.inl q1), y_E_264_37, y_E_264_38, e_g (Or.inl rfl)]; rfl
  · rw [if_neg (by rw [l1]; exact q1), t200', e_bI, en, key _ _ (by omega), Int.toNat_natCast]
    by_cases q2 : y_mJ m 100 (n_bd (c_wh L R t) c) = -1
    · rw [if_pos (by rw [l2]; exact q2), if_pos (Or.inr q2), y_E_264_37, y_E_264_38, e_g (Or.inl rfl)]; rfl
    · rw [if_neg (by rw [l2]; exact q2), if_neg (fun r => r.elim q1 q2), y_E_264_38, e_g (Or.inr rfl), decide_eq_true (show y_mJ m 100 c + y_mJ m 100 (n_bd (c_wh L R t) c) ≠ -1 by omega)]; rfl
theorem c_and {n : Nat} (hn : n < 2 ^ (L + R)) : n &&& t = 0 ↔ n_bd n (c_wh L R t) = 0 := by
  rw [n_bd_0]
  constructor
  · intro e j hj
    have := congrArg (fun z => Nat.testBit z j) e
    rw [Nat.testBit_and, Nat.zero_testBit, hj] at this
    rw [c_wh_bit]
    have hjl : j < L + R := by
      rcases Nat.lt_or_ge j (L + R) with q | q
      · exact q
      · rw [Nat.testBit_lt_two_pow (Nat.lt_of_lt_of_le hn (Nat.pow_le_pow_right (by decide) q))] at hj; cases hj
    rw [decide_eq_true hjl]
    cases q : t.testBit j
    · rfl
    · rw [q] at this; cases this
  · intro e
    refine Nat.eq_of_testBit_eq fun j => ?_
    rw [Nat.testBit_and, Nat.zero_testBit]
    cases q : n.testBit j
    · rfl
    · have := e j q
      rw [c_wh_bit, Bool.and_eq_true, Bool.not_eq_true'] at this
      rw [this.2]; rfl
theorem t_265s {x : Int} (hc : m_Ch m L R A B lw t) (h0 : -2147483648 ≤ x) (h1 : x < 2147483648) : (c_sb L R t x → y_R sp ph (d + 3) 265 0 [some (y_bo 11 0 49), some (y_bi x)] [] m = y_R sp ph (d + 3) 265 48 [some (y_bo 11 0 49), some (y_bi x)] [] (y_sI m 49 0 0)) ∧ (¬ c_sb L R t x → y_R sp ph (d + 3) 265 0 [some (y_bo 11 0 49), some (y_bi x)] [] m = y_rI 0 (y_sI (y_sI m 49 0 0) 49 0 1)) := by
  obtain ⟨g0, g1, _, _, _, g6, _, g7, _, hB⟩ := hc
  have h1' := hB.1
  have h2' := hB.2.1
  have hp : 2 ^ (L + R) ≤ 2 ^ 12 := Nat.pow_le_pow_right (by decide) (by omega)
  have hq : 0 < 2 ^ (L + R) := Nat.pow_pos (by decide)
  have e1 : z_ishl 1 ((L : Int) + (R : Int)) - 1 = ((2 ^ (L + R) - 1 : Nat) : Int) := by
    rw [show (L : Int) + (R : Int) = ((L + R : Nat) : Int) by omega, n_one (by omega)]; omega
  have t199 := t_199 (sp := sp) (ph := ph) (d := d + 2) (m := y_sI m 49 0 0)
  have f0 : y_mI (y_sI m 49 0 0) 52 0 = (L : Int) := by rw [e_II' (by omega)]; exact g0
  have f1 : y_mI (y_sI m 49 0 0) 52 1 = (R : Int) := by rw [e_II' (by omega)]; exact g1
  have f6 : y_mI (y_sI m 49 0 0) 52 6 = (t : Int) := by rw [e_II' (by omega)]; exact g6
  rw [f0, f1] at t199
  have t180 := t_180 (sp := sp) (ph := ph) (d := d + 2) (m := y_sI m 49 0 0) (v := x) (lo := 0) (hi := ((2 ^ (L + R) - 1 : Nat) : Int)) h0 h1 (by omega) (by omega) (by omega) (by omega)
  have ta := t_179a (sp := sp) (ph := ph) (d := d + 2) (m := y_sI m 49 0 0) e_II (x := 1)
  have tb := t_179b (sp := sp) (ph := ph) (d := d + 2) (m := y_sI m 49 0 0) e_II (x := 1) (by omega) (by omega)
  rw [y_E_265_0, t199, e_bI, e1, t180, e_bI]
  by_cases hr : 0 ≤ x ∧ x ≤ ((2 ^ (L + R) - 1 : Nat) : Int)
  · obtain ⟨n, hn⟩ : ∃ n : Nat, x = n := ⟨x.toNat, by omega⟩
    subst hn
    have key := c_and (t := t) (show n < 2 ^ (L + R) by omega)
    have ea : z_iand (n : Int) (t : Int) = ((n &&& t : Nat) : Int) := n_iand (by omega) (by omega)
    have hle : n &&& t ≤ n := Nat.and_le_left
    rw [decide_eq_true hr, if_neg (by decide), f6, ea]
    by_cases ha : n &&& t = 0
    · rw [if_pos (by rw [ha]; decide), y_E_265_38, y_E_265_39, ta, e_bI, if_pos (by decide)]
      exact ⟨fun _ => rfl, fun q => absurd ⟨hr.1, by rw [Int.toNat_natCast]; exact key.mp ha⟩ q⟩
    · rw [if_neg (by rw [z_w_id (by omega) (by omega)]; omega), y_E_265_34, y_E_265_39, tb, e_bI, if_neg (by decide)]
      refine ⟨fun q => absurd (key.mpr ?_) ha, fun _ => rfl⟩
      have := q.2
      rw [Int.toNat_natCast] at this
      exact this
  · rw [decide_eq_false hr, if_pos (by decide), y_E_265_34, y_E_265_39, tb, e_bI, if_neg (by decide)]
    refine ⟨fun q => absurd ⟨q.1, ?_⟩ hr, fun _ => rfl⟩
    have hle := Nat.le_of_testBit (n_bd_0.mp q.2)
    have := n_bd_le (2 ^ (L + R) - 1) t
    have := q.1
    unfold c_wh at hle
    omega
theorem t_265b {x : Int} (hU : u_R m L R A B t lw X w) (h0 : -2147483648 ≤ x) (h1 : x < 2147483648) (hx : ¬ c_sb L R t x) : y_V sp ph (d + 4) 265 [y_bo 11 0 49, y_bi x] m = y_rI 0 (y_sI (y_sI m 49 0 0) 49 0 1) := by
  rw [y_C_265]
  exact (t_265s (sp := sp) (ph := ph) (d := d) hU.1 h0 h1).2 hx
theorem t_265 {x : Int} {tr : Nat → Int} (hU : u_R m L R A B t lw X w) (h0 : -2147483648 ≤ x) (h1 : x < 2147483648) (hx : c_sb L R t x) (hM : ∀ T, T < 4096 → m_is (tr T) (m_P 0 L A B (m_hx lw L (c_wh L R t) T))) : ∃ m', y_V sp ph (d + 9) 265 [y_bo 11 0 49, y_bi x] m = y_rI (m_tw (m_s2 tr (c_wh L R t) x.toNat)) m' ∧ q_F u_Rh m m' ∧ y_mI m' 49 0 = 0 := by
  have hF0 : q_F u_Rh m (y_sI m 49 0 0) := q_F_sI (by unfold u_Rh; omega)
  have hF00 : q_F (fun a k => a = 49 ∧ k = 0) m (y_sI m 49 0 0) := q_F_sI ⟨rfl, rfl⟩
  have hc0 := m_Ch_F hU.1 hF00 (fun a k q => by unfold q_wr; omega)
  have hB := hU.1.2.2.2.2.2.2.2.2.2
  have hWl := c_wh_lt (t := t) hB.1 hB.2.1
  have hlt := c_rd_lt hB.1 hB.2.1 hx.2
  obtain ⟨m1, a1, a2, a3⟩ := t_260 (sp := sp) (ph := ph) (d := d) hc0
  have hH : m_Hm m1 L R A B lw t := ⟨m_Ch_F hc0 a2 (fun a k q => by unfold q_wr; omega), a3⟩
  have e0 : y_mI m1 49 0 = 0 := by rw [q_F_I a2 49 0 (by omega), e_II]
  have st := (t_265s (sp := sp) (ph := ph) (d := d + 5) hU.1 h0 h1).1 hx
  rw [y_C_265, st, y_E_265_48, a1, e_bV]
  obtain ⟨n, hn⟩ : ∃ n : Nat, x = n := ⟨x.toNat, by have := hx.1; omega⟩
  subst hn
  have hz := hx.2
  rw [Int.toNat_natCast] at *
  have hsub := n_bd_0.mp hz
  have t264 := t_264 (sp := sp) (ph := ph) (d := d + 5) hH hlt
  rw [t264, e_bI]
  have i2 := m_s2_is hB hWl (fun j hj => c_wh_in hj) hlt hM
  have r2 := m_r2_rf hB hWl (fun j hj => c_wh_in hj) hsub a3
  have hEP : ∀ E, m_p2 lw L (c_wh L R t) n E → m_E L R E := fun E g => (m_p2_E hWl (fun j hj => c_wh_in hj) hsub g).1
  have hF1 : q_F u_Rh m m1 := q_F_trans hF0 (q_F_mono a2 (fun a k q => by unfold u_Rh; omega))
  unfold m_tw
  rcases m_near r2 i2.1 with ⟨n1, n2⟩ | ⟨E, F, e1, e2, e3, e4, e5, e6, e7, e8⟩
  · refine ⟨m1, ?_, hF1, e0⟩
    rw [decide_eq_false (fun r => r n1), if_pos (by decide), if_pos n2, y_E_265_88, y_E_265_89]
  · have hne : m_r2 (y_mJ m1 100) (c_wh L R t) n ≠ -1 := by omega
    obtain ⟨g0, g1, _, _, _, g6, _, g7, hR, _⟩ := hH.1
    have t200 := t_200 (sp := sp) (ph := ph) (d := d + 6) (m := m1) g0 g1 g6 hB.1 hB.2.1 g7
    have t200' : y_V sp ph (d + 8) 200 [y_bo 11 0 49] m1 = y_rI (c_wh L R t : Int) m1 := t200
    have hb := n_bd_le (c_wh L R t) n
    have en : z_iand (c_wh L R t : Int) (z_ixor (n : Int) (-1)) = ((n_bd (c_wh L R t) n : Nat) : Int) := n_not (by omega) (by omega)
    have key : ∀ (w : Nat) (r : y_Rs), w < 4096 → y_g (0 ≤ (w : Int) ∧ (w : Int) < (4096 : Int)) r = r := fun w r h => e_g ⟨by omega, by omega⟩
    have hsum : y_mJ m1 100 n + y_mJ m1 100 (n_bd (c_wh L R t) n) = (w_code L A B E : Int) := by
      rw [← e2]
      unfold m_r2 at hne ⊢
      by_cases q : y_mJ m1 100 n = -1 ∨ y_mJ m1 100 (n_bd (c_wh L R t) n) = -1
      · rw [if_pos q] at hne; exact absurd rfl hne
      · rw [if_neg q]
    obtain ⟨m2, b1, b2⟩ := t_221L (sp := sp) (ph := ph) (d := d + 5) (m := m1) hR hB (hEP E e1)
    have cut := m_cut_eq hB (hEP F e3) (hEP E e1) (by omega) (by omega)
    refine ⟨m2, ?_, q_F_trans hF1 (q_F_mono b2 (fun a k q => by unfold m_9 at q; unfold u_Rh; omega)), by rw [q_F_I b2 49 0 (by unfold m_9; omega)]; exact e0⟩
    rw [decide_eq_true hne, if_neg (by decide), if_neg (by omega), key _ _ hlt, t200', e_bI, en, key _ _ (by omega), Int.toNat_natCast, hsum, b1, e_bI, y_E_265_89, ← cut, ← e4]
/-! the colour of the least length -/
def m_co (W half : Nat) (ap : Nat → Bool) (bt : Nat → Nat → Bool) : Nat → Nat → Int → Int
  | 0, _, r => r
  | n + 1, l, r => m_co W half ap bt n (l + 1) (if n_bd l W = 0 ∧ n_pop l = half ∧ ap l = true ∧ (r = -1 ∨ bt l r.toNat = true) then (l : Int) else r)
theorem m_co_congr {W half : Nat} {ap ap' : Nat → Bool} {bt bt' : Nat → Nat → Bool} (hap : ∀ l, l ≤ W → n_bd l W = 0 → ap l = ap' l) (hbt : ∀ l r, l ≤ W → r ≤ W → n_bd l W = 0 → n_bd r W = 0 → ap l = true → ap r = true → bt l r = bt' l r) : ∀ (n l : Nat) (r : Int), l + n = W + 1 → (r = -1 ∨ ∃ o : Nat, r = o ∧ o ≤ W ∧ n_bd o W = 0 ∧ ap o = true) → m_co W half ap bt n l r = m_co W half ap' bt' n l r := by
  intro n
  induction n with
  | zero => intro l r _ _; rfl
  | succ n ih =>
    intro l r hl hr
    rw [m_co, m_co]
    have e : (if n_bd l W = 0 ∧ n_pop l = half ∧ ap l = true ∧ (r = -1 ∨ bt l r.toNat = true) then (l : Int) else r) = (if n_bd l W = 0 ∧ n_pop l = half ∧ ap' l = true ∧ (r = -1 ∨ bt' l r.toNat = true) then (l : Int) else r) := by
      by_cases z : n_bd l W = 0
      · rw [hap l (by omega) z]
        by_cases a : ap' l = true
        · rcases hr with q | ⟨o, q1, q2, q3, q4⟩
          · simp only [z, a, q, true_or, and_true, true_and]
          · have : bt l r.toNat = bt' l r.toNat := by rw [q1, Int.toNat_natCast]; exact hbt l o (by omega) q2 z q3 (by rw [hap l (by omega) z]; exact a) q4
            rw [this]
        · rw [if_neg (fun q => a q.2.2.1), if_neg (fun q => a q.2.2.1)]
      · rw [if_neg (fun q => z q.1), if_neg (fun q => z q.1)]
    rw [← e]
    refine ih (l + 1) _ (by omega) ?_
    by_cases c : n_bd l W = 0 ∧ n_pop l = half ∧ ap l = true ∧ (r = -1 ∨ bt l r.toNat = true)
    · rw [if_pos c]; exact Or.inr ⟨l, rfl, by omega, c.1, c.2.2.1⟩
    · rw [if_neg c]; exact hr
end Two
