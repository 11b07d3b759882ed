/-! ===== a clause, to the reference ===== -/
def u_RB (m : y_m) (g : Nat → Nat) : Prop := u_gr g ∧ y_mI m 51 0 = (g 0 : Nat) ∧ y_mI m 51 1 = (g 1 : Nat) ∧ y_mI m 51 2 = (g 2 : Nat) ∧ y_mI m 51 3 = (g 3 : Nat) ∧ y_mI m 51 4 = (g 5 : Nat) ∧ y_mI m 51 5 = (g 6 : Nat) ∧ y_mI m 51 6 = (g 4 : Nat)
def u_rc (a k : Nat) : Prop := (a = 49 ∧ 4 ≤ k ∧ k ≤ 7) ∨ (a = 51 ∧ k < 7)
/-- the number that stands for a word -/
def u_wx (k : Nat) : Int := match k with
  | 0 => 0
  | 1 => 2
  | 2 => 6
  | 3 => 4
  | 4 => 5
  | _ => -1
section Clause
variable {sp : Nat → Nat} {ph : Bool} {d : Nat} {m : y_m} {f : Nat → Int} {n p cnt : Nat} {e q lo hi : Int} {g : Nat → Nat}
theorem u_RB_F {Q : Nat → Nat → Prop} {m' : y_m} (h : u_RB m g) (hF : q_F Q m m') (hQ : ∀ a k, Q a k → a ≠ 51) : u_RB m' g := by
  have e1 : ∀ k, y_mI m' 51 k = y_mI m 51 k := fun k => q_F_I hF 51 k (fun r => hQ _ _ r rfl)
  unfold u_RB
  rw [e1, e1, e1, e1, e1, e1, e1]; exact h
theorem u_rf_51 : ∀ a k, u_rf a k → a ≠ 51 := fun a k r => by unfold u_rf at r; omega
theorem u_rf_rc : ∀ a k, u_rf a k → u_rc a k := fun a k r => by unfold u_rf at r; unfold u_rc; omega
theorem u_RP_51 {k : Nat} {x : Int} (h : u_RP m f n p e q cnt) : u_RP (y_sI m 51 k x) f n p e q cnt := u_RP_F (Q := fun y z => y = 51 ∧ z = k) h (q_F_sI ⟨rfl, rfl⟩) (fun y z r => by omega)
theorem u_RP_ct {cnt' : Nat} {x : Int} (h : u_RP m f n p e q cnt) (hx : x = cnt') : u_RP (y_sI m 49 7 x) f n p e q cnt' := by
  obtain ⟨h1, h2, h3, h4, h5, h6, h7, h8, h9, h10⟩ := h
  exact ⟨h1, h2, by rw [e_II' (by omega)]; exact h3, by rw [e_II' (by omega)]; exact h4, by rw [e_II' (by omega)]; exact h5, by rw [e_II' (by omega)]; exact h6, by rw [e_II]; exact hx, h8, h9, fun i hi => by rw [e_II' (by omega)]; exact h10 i hi⟩
theorem u_RP_cz {cnt' : Nat} (h : u_RP m f n p e q cnt) (hx : y_mI m 49 7 = cnt') : u_RP m f n p e q cnt' := by
  obtain ⟨h1, h2, h3, h4, h5, h6, h7, h8, h9, h10⟩ := h
  exact ⟨h1, h2, h3, h4, h5, h6, hx, h8, h9, h10⟩
/-- where the reference keeps a value of the boot -/
def u_rk (k : Nat) : Nat := match k with
  | 0 => 0
  | 1 => 1
  | 2 => 2
  | 3 => 3
  | 4 => 6
  | 5 => 4
  | _ => 5
theorem u_RB_up {k v : Nat} {x : Int} (hk : k < 7) (h : u_RB m g) (hx : x = v) (hg : u_gr (u_up g k v)) : u_RB (y_sI m 51 (u_rk k) x) (u_up g k v) := by
  obtain ⟨h0, h1, h2, h3, h4, h5, h6, h7⟩ := h
  refine ⟨hg, ?_⟩
  unfold u_up
  rcases (show k = 0 ∨ k = 1 ∨ k = 2 ∨ k = 3 ∨ k = 4 ∨ k = 5 ∨ k = 6 by omega) with rfl | rfl | rfl | rfl | rfl | rfl | rfl
  all_goals
    simp only [u_rk]
    refine ⟨?_, ?_, ?_, ?_, ?_, ?_, ?_⟩
  all_goals first
    | (rw [e_II]; exact hx)
    | (rw [e_II' (by omega)]; assumption)
theorem u_po_ne (h : p ≤ n) : u_wk f p (u_sc u_le f n p) = (if u_po f p (u_sc u_le f n p) = u_K 0 then 0 else if u_po f p (u_sc u_le f n p) = u_K 1 then 1 else if u_po f p (u_sc u_le f n p) = u_K 3 then 3 else if u_po f p (u_sc u_le f n p) = u_K 4 then 4 else if u_po f p (u_sc u_le f n p) = u_K 2 then 2 else 5) := by
  have hl : ∀ i, p ≤ i → i < u_sc u_le f n p → 97 ≤ f i ∧ f i ≤ 122 := fun i h1 h2 => (u_sc_le h h1 h2).2
  have i0 := u_is_po (f := f) (p1 := p) (p2 := u_sc u_le f n p) (k := 0) (by omega) hl
  have i1 := u_is_po (f := f) (p1 := p) (p2 := u_sc u_le f n p) (k := 1) (by omega) hl
  have i2 := u_is_po (f := f) (p1 := p) (p2 := u_sc u_le f n p) (k := 2) (by omega) hl
  have i3 := u_is_po (f := f) (p1 := p) (p2 := u_sc u_le f n p) (k := 3) (by omega) hl
  have i4 := u_is_po (f := f) (p1 := p) (p2 := u_sc u_le f n p) (k := 4) (by omega) hl
  unfold u_wk
  simp only [i0, i1, i2, i3, i4]
  generalize u_po f p (u_sc u_le f n p) = v
  simp only [u_K]
  by_cases a0 : v = 365869
  · subst a0; decide
  · by_cases a1 : v = 847604
    · subst a1; decide
    · by_cases a2 : v = 405095
      · subst a2; decide
      · by_cases a3 : v = 8798
        · subst a3; decide
        · rw [if_neg a0, if_neg a0, if_neg a1, if_neg a1, if_neg a2, if_neg a2, if_neg a3]
theorem l_192w (h : u_RP m f n p 0 q cnt) : ∃ m', y_R sp ph (d + 4) 192 0 [some (y_bo 11 0 49), none] [] m = y_R sp ph (d + 4) 192 96 [some (y_bo 11 0 49), none] [y_bi (u_wx (u_wk f (u_sc u_bl f n p) (u_wp f n p)))] m' ∧ q_F u_rf m m' ∧ u_RP m' f n (u_sc u_bl f n p) 0 q cnt := by
  have hp1 := (u_sc_b (P := u_bl) (f := f) h.2.1)
  have idm : u_sc u_bl f n (u_sc u_bl f n p) = u_sc u_bl f n p := u_sc_no (u_sc_end rfl h.2.1)
  obtain ⟨m0, a1, a2, a3⟩ := t_190 (sp := sp) (ph := ph) (d := d) (k := 0) (by omega) h
  obtain ⟨m1, b1, b2, b3⟩ := t_190 (sp := sp) (ph := ph) (d := d) (k := 1) (by omega) a3
  rw [idm] at b3
  obtain ⟨m3, c1, c2, c3⟩ := t_190 (sp := sp) (ph := ph) (d := d) (k := 3) (by omega) b3
  rw [idm] at c3
  obtain ⟨m4, d1, d2, d3⟩ := t_190 (sp := sp) (ph := ph) (d := d) (k := 4) (by omega) c3
  rw [idm] at d3
  obtain ⟨m5, e1, e2, e3⟩ := t_190 (sp := sp) (ph := ph) (d := d) (k := 2) (by omega) d3
  rw [idm] at e3
  have hwp : u_wp f n (u_sc u_bl f n p) = u_wp f n p := by unfold u_wp; rw [idm]
  rw [idm, hwp] at b1 c1 d1 e1
  simp only [u_lt] at a1 b1 c1 d1 e1
  have ne := u_po_ne (f := f) (n := n) (p := u_sc u_bl f n p) hp1.2
  rw [show u_sc u_le f n (u_sc u_bl f n p) = u_wp f n p from rfl] at ne
  rw [y_E_192_0, a1, e_bI]
  by_cases x0 : u_po f (u_sc u_bl f n p) (u_wp f n p) = u_K 0
  · rw [if_pos x0] at ne
    rw [decide_eq_true x0, if_neg (by decide), ne]
    exact ⟨m0, rfl, a2, a3⟩
  · rw [if_neg x0] at ne
    rw [decide_eq_false x0, if_pos (by decide), y_E_192_20, b1, e_bI]
    have F1 := q_F_trans a2 b2
    by_cases x1 : u_po f (u_sc u_bl f n p) (u_wp f n p) = u_K 1
    · rw [if_pos x1] at ne
      rw [decide_eq_true x1, if_neg (by decide), ne]
      exact ⟨m1, rfl, F1, b3⟩
    · rw [if_neg x1] at ne
      rw [decide_eq_false x1, if_pos (by decide), y_E_192_39, c1, e_bI]
      have F3 := q_F_trans F1 c2
      by_cases x3 : u_po f (u_sc u_bl f n p) (u_wp f n p) = u_K 3
      · rw [if_pos x3] at ne
        rw [decide_eq_true x3, if_neg (by decide), ne]
        exact ⟨m3, rfl, F3, c3⟩
      · rw [if_neg x3] at ne
        rw [decide_eq_false x3, if_pos (by decide), y_E_192_57, d1, e_bI]
        have F4 := q_F_trans F3 d2
        by_cases x4 : u_po f (u_sc u_bl f n p) (u_wp f n p) = u_K 4
        · rw [if_pos x4] at ne
          rw [decide_eq_true x4, if_neg (by decide), ne]
          exact ⟨m4, rfl, F4, d3⟩
        · rw [if_neg x4] at ne
          rw [decide_eq_false x4, if_pos (by decide), y_E_192_74, e1, e_bI]
          have F5 := q_F_trans F4 e2
          by_cases x2 : u_po f (u_sc u_bl f n p) (u_wp f n p) = u_K 2
          · rw [if_pos x2] at ne
            rw [decide_eq_true x2, if_neg (by decide), ne]
            exact ⟨m5, rfl, F5, e3⟩
          · rw [if_neg x2] at ne
            rw [decide_eq_false x2, if_pos (by decide), y_E_192_95, ne]
            exact ⟨m5, rfl, F5, e3⟩
theorem l_192s {x1 : Int} : ∀ (k p : Nat) (m : y_m), p + k = n → u_RP m f n p e q cnt → ∃ m', y_R sp ph (d + 2) 192 163 [some (y_bo 11 0 49), some (y_bi x1)] [] m = y_R sp ph (d + 2) 192 202 [some (y_bo 11 0 49), some (y_bi x1)] [] m' ∧ q_F u_rf m m' ∧ u_RP m' f n (u_sc u_le f n p) e q cnt := by
  intro k
  have no : ∀ (p : Nat) (m : y_m), p ≤ n → u_RP m f n p e q cnt → u_le (u_c f n p) = false → ∃ m', y_R sp ph (d + 2) 192 163 [some (y_bo 11 0 49), some (y_bi x1)] [] m = y_R sp ph (d + 2) 192 202 [some (y_bo 11 0 49), some (y_bi x1)] [] m' ∧ q_F u_rf m m' ∧ u_RP m' f n (u_sc u_le f n p) e q cnt := by
    intro p m hp h c
    have hn := h.1.1
    have cb := u_c_b (p := p) h.1
    have t182 := t_182 (sp := sp) (ph := ph) (d := d + 1) (x := p) h (by omega)
    have cn := of_decide_eq_false c
    refine ⟨m, ?_, q_F_refl, by rw [u_sc_no c]; exact h⟩
    rw [y_E_192_163, h.2.2.2.1, t182, e_bI]
    by_cases o : u_c f n p < 97
    · rw [if_pos (by rw [z_w_id (by omega) (by omega)]; exact o)]
    · rw [if_neg (by rw [z_w_id (by omega) (by omega)]; exact o), h.2.2.2.1, t182, e_bI, if_pos (by rw [z_w_id (by omega) (by omega)]; omega)]
  induction k with
  | zero =>
    intro p m hp h
    exact no p m (by omega) h (by rw [u_c_end (by omega)]; rfl)
  | succ k ih =>
    intro p m hp h
    have hn := h.1.1
    have cb := u_c_b (p := p) h.1
    have t182 := t_182 (sp := sp) (ph := ph) (d := d + 1) (x := p) h (by omega)
    cases c : u_le (u_c f n p)
    · exact no p m (by omega) h c
    · have cn := of_decide_eq_true c
      obtain ⟨m2, a1, a2, a3⟩ := ih (p + 1) (y_sI m 49 4 ((p : Int) + 1)) (by omega) (u_RP_sp h (by omega) (by omega))
      rw [(u_sc_yes rfl c).2]
      refine ⟨m2, ?_, q_F_trans (q_F_sI (by unfold u_rf; omega)) a2, a3⟩
      rw [y_E_192_163, h.2.2.2.1, t182, e_bI, if_neg (by rw [z_w_id (by omega) (by omega)]; omega), h.2.2.2.1, t182, e_bI, if_neg (by rw [z_w_id (by omega) (by omega)]; omega), h.2.2.2.1]
      exact a1
/-- two numbers into two places -/
theorem l_192two {i j : Nat} (h : u_RP m f n p 0 q cnt) (hG : u_RB m g) (hij : (i = 0 ∧ j = 1 ∧ hi = 6) ∨ (i = 2 ∧ j = 3 ∧ hi = 99)) : ∃ v1 v2 m1 m2 p' g' e' q', y_V sp ph (d + 3) 187 [y_bo 11 0 49, y_bi 1, y_bi hi] m = y_rI v1 m1 ∧ y_V sp ph (d + 3) 187 [y_bo 11 0 49, y_bi 1, y_bi hi] (y_sI m1 51 i v1) = y_rI v2 m2 ∧ q_F u_rc m (y_sI m2 51 j v2) ∧ u_RP (y_sI m2 51 j v2) f n p' e' q' cnt ∧ (e' = 0 → u_RB (y_sI m2 51 j v2) g') ∧ u_vx 0 q (match u_nr f n 1 hi p with
    | .inl x => .inl x
    | .inr x => (match u_nr f n 1 hi x.2 with
      | .inl y => .inl y
      | .inr y => .inr (y.2, u_up (u_up g i x.1.toNat) j y.1.toNat))) p' g' e' q' := by
  obtain ⟨v1, p1, e1, q1, m1, a1, a2, a3, a4, a6⟩ := t_187 (sp := sp) (ph := ph) (d := d) (lo := 1) (hi := hi) h (by omega) (by omega) (by omega)
  obtain ⟨v2, p2, e2, q2, m2, b1, b2, b3, b4, b6⟩ := t_187 (sp := sp) (ph := ph) (d := d) (lo := 1) (hi := hi) (u_RP_51 (k := i) (x := v1) a3) (by omega) (by omega) (by omega)
  have hs : ∀ k x, k < 4 → ∀ m : y_m, q_F u_rc m (y_sI m 51 k x) := fun k x hk m => q_F_sI (by unfold u_rc; omega)
  have F : q_F u_rc m (y_sI m2 51 j v2) := q_F_trans (q_F_mono a2 u_rf_rc) (q_F_trans (hs i v1 (by omega) m1) (q_F_trans (q_F_mono b2 u_rf_rc) (hs j v2 (by omega) m2)))
  refine ⟨v1, v2, m1, m2, p2, u_up (u_up g i v1.toNat) j v2.toNat, e2, q2, a1, b1, F, u_RP_51 b3, ?_, fun r => absurd rfl r, fun _ => ?_⟩
  · intro he
    have e1z : e1 = 0 := by
      by_cases z : e1 = 0
      · exact z
      · exact absurd ((b6.1 z).1.symm.trans he) z
    have x := a6.2 rfl
    have y := b6.2 e1z
    cases hr : u_nr f n 1 hi p with
    | inl r => rw [hr] at x; exact absurd (x.1.symm.trans e1z) x.2.2
    | inr r =>
      rw [hr] at x
      dsimp only at x
      cases hr2 : u_nr f n 1 hi p1 with
      | inl r2 => rw [hr2] at y; exact absurd (y.1.symm.trans he) y.2.2
      | inr r2 =>
        rw [hr2] at y
        dsimp only at y
        have n1 : ∀ p r, u_nr f n 1 hi p = .inr r → 1 ≤ r.1 ∧ r.1 ≤ hi := by
          intro p r hh
          unfold u_nr at hh
          split at hh
          · rename_i hz
            cases hh
            exact u_nv_b hz
          · cases hh
        have w1 := n1 _ _ hr
        have w2 := n1 _ _ hr2
        rw [← x.1] at w1
        rw [← y.1] at w2
        have g0 := hG.1
        have hG1 := u_RB_F (m' := m1) hG a2 u_rf_51
        have hG2 : u_RB (y_sI m1 51 i v1) (u_up g i v1.toNat) := by
          have := u_RB_up (k := i) (x := v1) (v := v1.toNat) (by omega) hG1 (by omega) (by
            unfold u_gr u_up at *
            rcases hij with ⟨rfl, rfl, rfl⟩ | ⟨rfl, rfl, rfl⟩ <;> simp <;> omega)
          rcases hij with ⟨rfl, rfl, rfl⟩ | ⟨rfl, rfl, rfl⟩ <;> exact this
        have hG3 := u_RB_F (m' := m2) hG2 b2 u_rf_51
        have := u_RB_up (k := j) (x := v2) (v := v2.toNat) (by omega) hG3 (by omega) (by
            unfold u_gr u_up at *
            rcases hij with ⟨rfl, rfl, rfl⟩ | ⟨rfl, rfl, rfl⟩ <;> simp <;> omega)
        rcases hij with ⟨rfl, rfl, rfl⟩ | ⟨rfl, rfl, rfl⟩ <;> exact this
  · have x := a6.2 rfl
    cases hr : u_nr f n 1 hi p with
    | inl r =>
      rw [hr] at x
      dsimp only at x
      obtain ⟨y1, y2⟩ := b6.1 (by rw [x.1]; exact x.2.2)
      exact ⟨by rw [y1, x.1], by rw [y2, x.2.1], x.2.2⟩
    | inr r =>
      rw [hr] at x
      dsimp only at x
      obtain ⟨x1, x2, x3, x4⟩ := x
      have y := b6.2 x3
      rw [x2] at y
      dsimp only
      cases hr2 : u_nr f n 1 hi r.2 with
      | inl r2 =>
        rw [hr2] at y
        exact y
      | inr r2 =>
        rw [hr2] at y
        dsimp only at y ⊢
        obtain ⟨y1, y2, y3, y4⟩ := y
        exact ⟨y2, by rw [x1, y1], y3, by rw [y4, x4]⟩
/-- one number into a place -/
theorem l_192one {i : Nat} {w : Int → Nat} {z : Int → Int} (h : u_RP m f n p 0 q cnt) (hG : u_RB m g) (hi7 : i < 7) (h1 : -1000000 ≤ lo) (h2 : lo ≤ hi) (h3 : hi ≤ 1000000) (hz : ∀ v, lo ≤ v → v ≤ hi → z v = w v) (hw : ∀ v, lo ≤ v → v ≤ hi → u_gr (u_up g i (w v))) : ∃ v1 m1 p' g' e' q', y_V sp ph (d + 3) 187 [y_bo 11 0 49, y_bi lo, y_bi hi] m = y_rI v1 m1 ∧ q_F u_rf m m1 ∧ q_F u_rc m (y_sI m1 51 (u_rk i) (z v1)) ∧ u_RP (y_sI m1 51 (u_rk i) (z v1)) f n p' e' q' cnt ∧ (e' = 0 → u_RB (y_sI m1 51 (u_rk i) (z v1)) g') ∧ u_vx 0 q (match u_nr f n lo hi p with
    | .inl x => .inl x
    | .inr x => .inr (x.2, u_up g i (w x.1))) p' g' e' q' := by
  obtain ⟨v1, p1, e1, q1, m1, a1, a2, a3, a4, a6⟩ := t_187 (sp := sp) (ph := ph) (d := d) (lo := lo) (hi := hi) h h1 h2 h3
  have rk : u_rk i < 7 := by
    unfold u_rk
    split <;> omega
  refine ⟨v1, m1, p1, u_up g i (w v1), e1, q1, a1, a2, q_F_trans (q_F_mono a2 u_rf_rc) (q_F_sI (by unfold u_rc; omega)), u_RP_51 a3, ?_, fun r => absurd rfl r, fun _ => ?_⟩
  · intro he
    have x := a6.2 rfl
    cases hr : u_nr f n lo hi p with
    | inl r => rw [hr] at x; exact absurd (x.1.symm.trans he) x.2.2
    | inr r =>
      rw [hr] at x
      dsimp only at x
      have w1 : lo ≤ r.1 ∧ r.1 ≤ hi := by
        unfold u_nr at hr
        split at hr
        · rename_i hz
          cases hr
          exact u_nv_b hz
        · cases hr
      rw [← x.1] at w1
      exact u_RB_up hi7 (u_RB_F hG a2 u_rf_51) (hz v1 w1.1 w1.2) (hw v1 w1.1 w1.2)
  · have x := a6.2 rfl
    cases hr : u_nr f n lo hi p with
    | inl r => rw [hr] at x; exact x
    | inr r =>
      rw [hr] at x
      dsimp only at x ⊢
      obtain ⟨x1, x2, x3, x4⟩ := x
      exact ⟨x2, by rw [x1], x3, x4⟩
end Clause
