/-! ===== texts, to the reference ===== -/
def u_RP (m : y_m) (f : Nat → Int) (n p : Nat) (e q : Int) (cnt : Nat) : Prop := u_tx f n ∧ p ≤ n ∧ y_mI m 49 2 = n ∧ y_mI m 49 4 = p ∧ y_mI m 49 5 = e ∧ y_mI m 49 6 = q ∧ y_mI m 49 7 = cnt ∧ 0 ≤ e ∧ e ≤ 9 ∧ ∀ i, i < n → y_mI m 50 i = f i
def u_rf (a k : Nat) : Prop := a = 49 ∧ 4 ≤ k ∧ k ≤ 6
section Ref
variable {sp : Nat → Nat} {ph : Bool} {d : Nat} {m : y_m} {f : Nat → Int} {n p cnt : Nat} {e q lo hi : Int}
theorem u_RP_sp {p' : Nat} {x : Int} (h : u_RP m f n p e q cnt) (hp : p' ≤ n) (hx : x = p') : u_RP (y_sI m 49 4 x) f n p' e q cnt := by
  obtain ⟨h1, h2, h3, h4, h5, h6, h7, h8, h9, h10⟩ := h
  exact ⟨h1, hp, by rw [e_II' (by omega)]; exact h3, by rw [e_II]; exact hx, by rw [e_II' (by omega)]; exact h5, by rw [e_II' (by omega)]; exact h6, by rw [e_II' (by omega)]; exact h7, h8, h9, fun i hi => by rw [e_II' (by omega)]; exact h10 i hi⟩
theorem u_RP_F {Q : Nat → Nat → Prop} {m' : y_m} (h : u_RP m f n p e q cnt) (hF : q_F Q m m') (hQ : ∀ a k, Q a k → (a ≠ 49 ∨ k < 2 ∨ 7 < k) ∧ a ≠ 50) : u_RP m' f n p e q cnt := by
  obtain ⟨h1, h2, h3, h4, h5, h6, h7, h8, h9, h10⟩ := h
  have e1 : ∀ k, 2 ≤ k → k ≤ 7 → y_mI m' 49 k = y_mI m 49 k := fun k k1 k2 => q_F_I hF 49 k (fun r => by have := (hQ _ _ r).1; omega)
  exact ⟨h1, h2, by rw [e1 2 (by omega) (by omega)]; exact h3, by rw [e1 4 (by omega) (by omega)]; exact h4, by rw [e1 5 (by omega) (by omega)]; exact h5, by rw [e1 6 (by omega) (by omega)]; exact h6, by rw [e1 7 (by omega) (by omega)]; exact h7, h8, h9, fun i hi => by rw [q_F_I hF 50 i (fun r => (hQ _ _ r).2 rfl)]; exact h10 i hi⟩
theorem t_182 {x : Nat} (h : u_RP m f n p e q cnt) (hx : x < 1000000) : y_V sp ph (d + 1) 182 [y_bo 11 0 49, y_bi (x : Int)] m = y_rI (u_c f n x) m := by
  obtain ⟨h1, h2, h3, h4, h5, h6, h7, h8, h9, h10⟩ := h
  have hn := h1.1
  unfold u_c
  by_cases c : x < n
  · rw [y_C_182, y_E_182_0, h3, if_pos (by rw [z_w_id (by omega) (by omega), z_w_id (by omega) (by omega)]; omega), y_E_182_12, e_g ⟨by omega, by omega⟩, Int.toNat_natCast, h10 x c, y_E_182_18, if_pos c]
  · rw [y_C_182, y_E_182_0, h3, if_neg (by rw [z_w_id (by omega) (by omega), z_w_id (by omega) (by omega)]; omega), y_E_182_18, if_neg c]
theorem l_183 : ∀ (k p : Nat) (m : y_m), p + k = n → u_RP m f n p e q cnt → ∃ m', y_R sp ph (d + 1) 183 0 [some (y_bo 11 0 49)] [] m = y_rV m' ∧ q_F u_rf m m' ∧ u_RP m' f n (u_sc u_bl f n p) e q cnt := by
  intro k
  induction k with
  | zero =>
    intro p m hp h
    have hn := h.1.1
    have hc : u_c f n p = -1 := u_c_end (by omega)
    have t182 := t_182 (sp := sp) (ph := ph) (d := d) (x := p) h (by omega)
    rw [u_sc_no (by rw [hc]; rfl)]
    refine ⟨m, ?_, q_F_refl, h⟩
    rw [y_E_183_0, h.2.2.2.1, t182, e_bI, hc, if_pos (by decide), y_E_183_26]
  | succ k ih =>
    intro p m hp h
    have hn := h.1.1
    have cb := u_c_b (p := p) h.1
    have t182 := t_182 (sp := sp) (ph := ph) (d := d) (x := p) h (by omega)
    cases c : u_bl (u_c f n p)
    · have cn := of_decide_eq_false c
      rw [u_sc_no c]
      refine ⟨m, ?_, q_F_refl, h⟩
      rw [y_E_183_0, h.2.2.2.1, t182, e_bI, if_pos (by rw [z_w_id (by omega) (by omega)]; exact cn), y_E_183_26]
    · have cn := of_decide_eq_true c
      obtain ⟨m2, a1, a2, a3⟩ := ih (p + 1) (y_sI m 49 4 ((p : Int) + 1)) (by omega) (u_RP_sp h (by omega) (by omega))
      rw [(u_sc_yes rfl c).2]
      refine ⟨m2, ?_, q_F_trans (q_F_sI (by unfold u_rf; omega)) a2, a3⟩
      rw [y_E_183_0, h.2.2.2.1, t182, e_bI, if_neg (by rw [cn]; decide), h.2.2.2.1]
      exact a1
theorem t_183 (h : u_RP m f n p e q cnt) : ∃ m', y_V sp ph (d + 2) 183 [y_bo 11 0 49] m = y_rV m' ∧ q_F u_rf m m' ∧ u_RP m' f n (u_sc u_bl f n p) e q cnt := by
  rw [y_C_183]
  exact l_183 (n - p) p m (by have := h.2.1; omega) h
theorem t_184 {k w : Int} (h : u_RP m f n p e q cnt) (hk : 0 ≤ k) (hk' : k ≤ 9) : ∃ m', y_V sp ph (d + 1) 184 [y_bo 11 0 49, y_bi k, y_bi w] m = y_rV m' ∧ q_F u_rf m m' ∧ u_RP m' f n p (u_fl e q k w).1 (u_fl e q k w).2 cnt := by
  obtain ⟨h1, h2, h3, h4, h5, h6, h7, h8, h9, h10⟩ := h
  unfold u_fl
  by_cases c : e = 0
  · rw [if_pos c]
    refine ⟨y_sI (y_sI m 49 5 k) 49 6 w, ?_, q_F_trans (q_F_sI (by unfold u_rf; omega)) (q_F_sI (by unfold u_rf; omega)), h1, h2, ?_, ?_, ?_, ?_, ?_, hk, hk', fun i hi => ?_⟩
    · rw [y_C_184, y_E_184_0, h5, if_neg (by rw [c]; decide), y_E_184_17]
    · rw [e_II' (by omega), e_II' (by omega)]; exact h3
    · rw [e_II' (by omega), e_II' (by omega)]; exact h4
    · rw [e_II' (by omega), e_II]
    · rw [e_II]
    · rw [e_II' (by omega), e_II' (by omega)]; exact h7
    · rw [e_II' (by omega), e_II' (by omega)]; exact h10 i hi
  · rw [if_neg c]
    refine ⟨m, ?_, q_F_refl, h1, h2, h3, h4, h5, h6, h7, h8, h9, h10⟩
    rw [y_C_184, y_E_184_0, h5, if_pos (by rw [z_w_id (by omega) (by omega)]; exact c), y_E_184_17]
theorem t_185 {x : Int} (h0 : -1 ≤ x) (h1 : x < 256) : y_V sp ph (d + 1) 185 [y_bi x] m = y_rI (n_b (u_di x)) m := by
  unfold u_di
  rw [y_C_185, y_E_185_0, z_w_id (by omega) (by omega)]
  by_cases a : x < 48
  · rw [if_pos a, y_E_185_16, y_E_185_17, e_g (Or.inl rfl), decide_eq_false (by omega)]; rfl
  · by_cases b : 57 < x
    · rw [if_neg a, if_pos b, y_E_185_16, y_E_185_17, e_g (Or.inl rfl), decide_eq_false (by omega)]; rfl
    · rw [if_neg a, if_neg b, y_E_185_17, e_g (Or.inr rfl), decide_eq_true (by omega)]; rfl
theorem l_186 : ∀ (k p : Nat) (v : Int) (m : y_m), p + k = n → u_RP m f n p e q cnt → 0 ≤ v → v ≤ 100000 → ∃ m', y_R sp ph (d + 1) 186 2 [some (y_bo 11 0 49), some (y_bi v)] [] m = y_rI (u_dw f n p v) m' ∧ q_F u_rf m m' ∧ u_RP m' f n (u_sc u_di f n p) e q cnt := by
  intro k
  induction k with
  | zero =>
    intro p v m hp h h0 h1
    have hn := h.1.1
    have hc : u_c f n p = -1 := u_c_end (by omega)
    have hd : u_di (u_c f n p) = false := by rw [hc]; rfl
    have t182 := t_182 (sp := sp) (ph := ph) (d := d) (x := p) h (by omega)
    have t185 := t_185 (sp := sp) (ph := ph) (d := d) (m := m) (x := u_c f n p) (by omega) (by omega)
    rw [u_sc_no hd, u_dw_no hd]
    refine ⟨m, ?_, q_F_refl, h⟩
    rw [y_E_186_2, h.2.2.2.1, t182, e_bI, t185, e_bI, hd, if_pos (by decide), y_E_186_59]
  | succ k ih =>
    intro p v m hp h h0 h1
    have hn := h.1.1
    have cb := u_c_b (p := p) h.1
    have t182 := t_182 (sp := sp) (ph := ph) (d := d) (x := p) h (by omega)
    have t185 := t_185 (sp := sp) (ph := ph) (d := d) (m := m) cb.1 cb.2
    rw [y_E_186_2, h.2.2.2.1, t182, e_bI, t185, e_bI]
    cases c : u_di (u_c f n p)
    · rw [u_sc_no c, u_dw_no c]
      refine ⟨m, ?_, q_F_refl, h⟩
      rw [if_pos (by decide), y_E_186_59]
    · have cd := of_decide_eq_true c
      obtain ⟨m2, a1, a2, a3⟩ := ih (p + 1) (if 10 * v + u_c f n p - 48 ≤ 100000 then 10 * v + u_c f n p - 48 else 100000) (y_sI m 49 4 ((p : Int) + 1)) (by omega) (u_RP_sp h (by omega) (by omega)) (by split <;> omega) (by split <;> omega)
      rw [(u_sc_yes rfl c).2, u_dw_yes c]
      refine ⟨m2, ?_, q_F_trans (q_F_sI (by unfold u_rf; omega)) a2, a3⟩
      rw [if_neg (by decide), h.2.2.2.1, t182, e_bI, z_w_id (by omega) (by omega)]
      by_cases o : 10 * v + u_c f n p - 48 ≤ 100000
      · rw [if_pos o] at a1 ⊢
        rw [if_pos o, y_E_186_44, y_E_186_45, h.2.2.2.1]
        exact a1
      · rw [if_neg o] at a1 ⊢
        rw [if_neg o, y_E_186_45, h.2.2.2.1]
        exact a1
theorem t_186 (h : u_RP m f n p e q cnt) : ∃ m', y_V sp ph (d + 2) 186 [y_bo 11 0 49] m = y_rI (u_dw f n p 0) m' ∧ q_F u_rf m m' ∧ u_RP m' f n (u_sc u_di f n p) e q cnt := by
  rw [y_C_186, y_E_186_0]
  exact l_186 (n - p) p 0 m (by have := h.2.1; omega) h (by omega) (by omega)
theorem t_187 (h : u_RP m f n p e q cnt) (h1 : -1000000 ≤ lo) (h2 : lo ≤ hi) (h3 : hi ≤ 1000000) : ∃ v p' e' q' m', y_V sp ph (d + 3) 187 [y_bo 11 0 49, y_bi lo, y_bi hi] m = y_rI v m' ∧ q_F u_rf m m' ∧ u_RP m' f n p' e' q' cnt ∧ ((lo ≤ v ∧ v ≤ hi) ∨ v = 0) ∧ u_nx e q (u_nr f n lo hi p) v p' e' q' := by
  rw [y_C_187, y_E_187_0, h.2.2.2.2.1]
  by_cases he : e = 0
  · subst he
    obtain ⟨m1, a1, a2, a3⟩ := t_183 (sp := sp) (ph := ph) (d := d) h
    have hn := h.1.1
    have hp1 := a3.2.1
    have cb := u_c_b (p := u_sc u_bl f n p) h.1
    have t182 := t_182 (sp := sp) (ph := ph) (d := d + 1) (x := u_sc u_bl f n p) a3 (by omega)
    have t185 := t_185 (sp := sp) (ph := ph) (d := d + 1) (m := m1) cb.1 cb.2
    have vb := u_dw_b (f := f) (n := n) (p := u_sc u_bl f n p) (v := 0) (by omega) (by omega)
    have e4 := a3.2.2.2.1
    rw [if_pos (by decide), y_E_187_9, a1, e_bV, e4, t182, e_bI, t185, e_bI]
    have t180 := fun m => t_180 (sp := sp) (ph := ph) (d := d + 1) (m := m) (v := u_dw f n (u_sc u_bl f n p) 0) (lo := lo) (hi := hi) (by omega) (by omega) (by omega) (by omega) (by omega) (by omega)
    unfold u_nx u_nr u_nk u_nv u_np
    cases c : u_di (u_c f n (u_sc u_bl f n p))
    · obtain ⟨m2, b1, b2, b3⟩ := t_184 (sp := sp) (ph := ph) (d := d + 1) (k := 1) (w := (u_sc u_bl f n p : Nat)) a3 (by omega) (by omega)
      obtain ⟨m3, c1, c2, c3⟩ := t_186 (sp := sp) (ph := ph) (d := d) b3
      have w0 : u_dw f n (u_sc u_bl f n p) 0 = 0 := u_dw_no c
      rw [if_neg (by decide), e4, b1, e_bV, y_E_187_41, c1, e_bI, t180, e_bI]
      simp only [reduceIte, show ¬ ((1 : Int) = 0) by decide]
      -- whether in or not, the fault stays
      by_cases o : lo ≤ u_dw f n (u_sc u_bl f n p) 0 ∧ u_dw f n (u_sc u_bl f n p) 0 ≤ hi
      · rw [decide_eq_true o, if_pos (by decide), y_E_187_63, c3.2.2.2.2.1]
        have e1 : (u_fl 0 q 1 (u_sc u_bl f n p : Nat)).1 = 1 := rfl
        rw [e1, if_pos (by decide), y_E_187_75, y_E_187_76]
        exact ⟨0, _, _, _, m3, rfl, q_F_trans a2 (q_F_trans b2 c2), c3, Or.inr rfl, fun r => absurd rfl r, fun _ => ⟨rfl, rfl, by decide⟩⟩
      · obtain ⟨m4, d1, d2, d3⟩ := t_184 (sp := sp) (ph := ph) (d := d + 1) (k := 2) (w := (u_sc u_bl f n p : Nat)) c3 (by omega) (by omega)
        rw [decide_eq_false o, if_neg (by decide), d1, e_bV, y_E_187_63, d3.2.2.2.2.1]
        have e1 : (u_fl (u_fl 0 q 1 (u_sc u_bl f n p : Nat)).1 (u_fl 0 q 1 (u_sc u_bl f n p : Nat)).2 2 (u_sc u_bl f n p : Nat)).1 = 1 := rfl
        rw [e1, if_pos (by decide), y_E_187_75, y_E_187_76]
        exact ⟨0, _, _, _, m4, rfl, q_F_trans a2 (q_F_trans b2 (q_F_trans c2 d2)), d3, Or.inr rfl, fun r => absurd rfl r, fun _ => ⟨rfl, rfl, by decide⟩⟩
    · obtain ⟨m3, c1, c2, c3⟩ := t_186 (sp := sp) (ph := ph) (d := d) a3
      rw [if_pos (by decide), y_E_187_41, c1, e_bI, t180, e_bI]
      have g : ¬ (true = false) := by decide
      simp only [if_neg g]
      by_cases o : lo ≤ u_dw f n (u_sc u_bl f n p) 0 ∧ u_dw f n (u_sc u_bl f n p) 0 ≤ hi
      · have o' : ¬ (u_dw f n (u_sc u_bl f n p) 0 < lo ∨ hi < u_dw f n (u_sc u_bl f n p) 0) := by omega
        rw [decide_eq_true o, if_pos (by decide), y_E_187_63, c3.2.2.2.2.1, if_neg (by decide), y_E_187_76]
        simp only [if_neg o', reduceIte]
        exact ⟨_, _, _, _, m3, rfl, q_F_trans a2 c2, c3, Or.inl o, fun r => absurd rfl r, fun _ => ⟨rfl, rfl, rfl, rfl⟩⟩
      · have o' : u_dw f n (u_sc u_bl f n p) 0 < lo ∨ hi < u_dw f n (u_sc u_bl f n p) 0 := by omega
        obtain ⟨m4, d1, d2, d3⟩ := t_184 (sp := sp) (ph := ph) (d := d + 1) (k := 2) (w := (u_sc u_bl f n p : Nat)) c3 (by omega) (by omega)
        rw [decide_eq_false o, if_neg (by decide), d1, e_bV, y_E_187_63, d3.2.2.2.2.1]
        have e1 : (u_fl 0 q 2 (u_sc u_bl f n p : Nat)).1 = 2 := rfl
        rw [e1, if_pos (by decide), y_E_187_75, y_E_187_76]
        simp only [if_pos o', show ¬ ((2 : Int) = 0) by decide, reduceIte]
        exact ⟨0, _, _, _, m4, rfl, q_F_trans a2 (q_F_trans c2 d2), d3, Or.inr rfl, fun r => absurd rfl r, fun _ => ⟨rfl, rfl, by decide⟩⟩
  · rw [if_neg (by rw [z_w_id (by have := h.2.2.2.2.2.2.2.1; omega) (by have := h.2.2.2.2.2.2.2.2.1; omega)]; exact he)]
    exact ⟨0, p, e, q, m, rfl, q_F_refl, h, Or.inr rfl, fun _ => ⟨rfl, rfl⟩, fun r => absurd r he⟩
end Ref
