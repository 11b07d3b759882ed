section Way
variable {sp : Nat → Nat} {ph : Bool} {d : Nat} {m : y_m} {f : Nat → Int} {n p : Nat} {e q lo hi : Int} {L R A B t lw X b : Nat} {w : List Nat}
def u_wf (a k : Nat) : Prop := u_tf a k ∨ (a = 20 ∧ k = 1) ∨ a = 21
def u_vw (q : Int) (r : (Int × Int) ⊕ List Nat) (m' : y_m) (e' q' : Int) : Prop := match r with
  | .inl y => e' = y.1 ∧ q' = y.2 ∧ y.1 ≠ 0
  | .inr w => e' = 0 ∧ q' = q ∧ q_W m' 20 w
theorem u_tf_wf : ∀ a k, u_tf a k → u_wf a k := fun _ _ r => Or.inl r
theorem u_fl_ne {e q k w : Int} (h : e ≠ 0) : u_fl e q k w = (e, q) := by unfold u_fl; rw [if_neg h]
theorem l_69e {b : Nat} (h : u_TP m f n p e q) (he : e ≠ 0) : ∃ m', y_R sp ph (d + 4) 69 82 [some (y_bo 8 0 20), some (y_bo 6 0 1), none, none, none, none] [] m = y_rV m' ∧ q_F u_wf m m' ∧ u_TP m' f n p e q := by
  rw [y_E_69_82]
  by_cases c : 3 ≤ z_w (y_mI m 20 1)
  · rw [if_pos c, y_E_69_95]
    exact ⟨m, rfl, q_F_refl, h⟩
  · obtain ⟨m1, a1, a2, a3⟩ := s_22 (sp := sp) (ph := ph) (d := d + 2) (k := 4) h (by omega) (by omega)
    rw [u_fl_ne he] at a3
    rw [if_neg c, a1, e_bV, y_E_69_95]
    exact ⟨m1, rfl, q_F_mono a2 u_tf_wf, a3⟩
theorem l_69f {x v : Int} {i : Nat} (h : u_TP m f n p e q) (he : e ≠ 0) (hW : q_W m 20 w) (hi : i ≤ 12) : ∃ m', y_R sp ph (d + 4) 69 63 [some (y_bo 8 0 20), some (y_bo 6 0 1), some (y_bo 0 0 b), some (y_bi x), some (y_bi (i : Int)), some (y_bi v)] [] m = y_rV m' ∧ q_F u_wf m m' ∧ u_TP m' f n p e q := by
  have st : ∃ m1, y_V sp ph (d + 4) 63 [y_bo 8 0 20, y_bi v] m = y_rV m1 ∧ q_F u_wf m m1 := by
    by_cases c : w.length < 12
    · have s63 := s_63 (sp := sp) (ph := ph) (d := d + 2) (m := m) (a := 20) (x := v) (by rw [hW.1]; omega) (by rw [hW.1]; omega)
      exact ⟨_, s63, q_F_trans (q_F_sI (by unfold u_wf; omega)) (q_F_sI (by unfold u_wf; omega))⟩
    · have hl := hW.2.1
      refine ⟨m, ?_, q_F_refl⟩
      rw [y_C_63, y_E_63_0, hW.1, if_pos (by rw [z_w_id (by omega) (by omega)]; omega), y_E_63_31]
  obtain ⟨m1, a1, a2⟩ := st
  have h1 : u_TP m1 f n p e q := by
    by_cases c : w.length < 12
    · have s63 := s_63 (sp := sp) (ph := ph) (d := d + 2) (m := m) (a := 20) (x := v) (by rw [hW.1]; omega) (by rw [hW.1]; omega)
      rw [s63] at a1
      have e1 : m1 = _ := (Option.some.inj a1 |> Prod.mk.inj).2.symm
      rw [e1]
      exact u_TP_sI (u_TP_sI h (by omega) (by omega)) (by omega) (by omega)
    · have hl := hW.2.1
      rw [y_C_63, y_E_63_0, hW.1, if_pos (by rw [z_w_id (by omega) (by omega)]; omega), y_E_63_31] at a1
      have e1 : m1 = _ := (Option.some.inj a1 |> Prod.mk.inj).2.symm
      rw [e1]
      exact h
  obtain ⟨m2, b1, b2, b3⟩ := l_69e (sp := sp) (ph := ph) (d := d) (b := 0) h1 he
  have s17 := s_17 (sp := sp) (ph := ph) (d := d + 3) h1
  refine ⟨m2, ?_, q_F_trans a2 b2, b3⟩
  rw [y_E_69_63, a1, e_bV, y_E_69_12]
  by_cases c : 12 < z_w ((i : Int) + 1)
  · rw [if_pos c]; exact b1
  · rw [if_neg c, s17, e_bI, decide_eq_true he, if_pos (by decide)]; exact b1
theorem u_TP_W {k v : Nat} {x : Int} (h : u_TP m f n p e q) : u_TP (y_sI (y_sI m 21 k v) 20 1 x) f n p e q := u_TP_sI (u_TP_sI h (by omega) (by omega)) (by omega) (by omega)
theorem u_W_add {v k : Nat} (hW : q_W m 20 w) (hk : w.length = k) (h12 : k < 12) : q_W (y_sI (y_sI m 21 k v) 20 1 ((k : Int) + 1)) 20 (w ++ [v]) := by
  refine ⟨by rw [e_II, List.length_append, List.length_singleton, hk]; omega, by rw [List.length_append, List.length_singleton]; omega, fun i hi => ?_⟩
  rw [List.length_append, List.length_singleton] at hi
  rw [e_II' (by omega)]
  by_cases c : i = k
  · subst c
    rw [e_II, List.getD_eq_getElem?_getD, List.getElem?_append_right (by omega), hk, Nat.sub_self]; rfl
  · rw [e_II' (by omega), hW.2.2 i (by omega), List.getD_eq_getElem?_getD, List.getD_eq_getElem?_getD, List.getElem?_append_left (by omega)]
theorem l_69 (hb : b = 29 ∨ b = 30) (hL : L ≤ 6) (hR : R ≤ 6) (hH : 1 ≤ L + R) : ∀ (k p x : Nat) (w : List Nat) (m : y_m), w.length + k = 13 → u_TP m f n p 0 q → y_mI m b 0 = L → y_mI m b 1 = R → u_wi t (L + R) x w → q_W m 20 w → ∃ p' e' q' m', y_R sp ph (d + 4) 69 12 [some (y_bo 8 0 20), some (y_bo 6 0 1), some (y_bo 0 0 b), some (y_bi (x : Int)), some (y_bi (w.length : Int)), none] [] m = y_rV m' ∧ q_F u_wf m m' ∧ u_TP m' f n p' e' q' ∧ u_vw q (u_wy f n (L + R) k p x w) m' e' q' := by
  intro k
  induction k with
  | zero =>
    intro p x w m hk h h1 h2 hi hW
    have := u_wi_12 hi
    omega
  | succ k ih =>
    intro p x w m hk h h1 h2 hi hW
    have hw12 := u_wi_12 hi
    have s17 := s_17 (sp := sp) (ph := ph) (d := d + 3) h
    obtain ⟨m1, a1, a2, a3, a4⟩ := s_23 (sp := sp) (ph := ph) (d := d) h
    have F1 : q_F u_wf m m1 := q_F_mono a2 u_tf_wf
    have hW1 : q_W m1 20 w := q_W_F hW a2 (fun r => by unfold u_tf at r; omega) (fun k r => by unfold u_tf at r; omega)
    rw [y_E_69_12, if_neg (by rw [z_w_id (by omega) (by omega)]; omega), s17, e_bI, if_neg (by decide), a1, e_bI, u_wy]
    by_cases c : n ≤ u_sc u_bl f n p
    · rw [decide_eq_true c, if_neg (by decide), if_pos c, y_E_69_82, hW1.1]
      by_cases c3 : 3 ≤ w.length
      · rw [if_pos (by rw [z_w_id (by omega) (by omega)]; omega), y_E_69_95, if_pos c3]
        exact ⟨_, 0, q, m1, rfl, F1, a3, rfl, rfl, hW1⟩
      · obtain ⟨m2, b1, b2, b3⟩ := s_22 (sp := sp) (ph := ph) (d := d + 2) (k := 4) a3 (by omega) (by omega)
        rw [if_neg (by rw [z_w_id (by omega) (by omega)]; omega), b1, e_bV, y_E_69_95, if_neg c3]
        exact ⟨_, _, _, m2, rfl, q_F_trans F1 (q_F_mono b2 u_tf_wf), b3, rfl, rfl, by show ¬ (4 : Int) = 0; decide⟩
    · have e1 : ∀ j, y_mI m1 b j = y_mI m b j := fun j => q_F_I a2 b j (fun r => by unfold u_tf at r; omega)
      have s38 := s_38 (sp := sp) (ph := ph) (d := d + 3) (m := m1) (a := b)
      rw [e1, e1, h1, h2] at s38
      have hx : (x : Int) < 4096 := by have := hi.2.1; omega
      have eH : (L : Int) + (R : Int) - 1 = ((L + R : Nat) : Int) - 1 := by omega
      rw [decide_eq_false c, if_pos (by decide), if_neg c, y_E_69_36, s38, e_bI, eH]
      cases hn : u_nr f n 0 (((L + R : Nat) : Int) - 1) (u_sc u_bl f n p) with
      | inl y =>
        obtain ⟨v, p2, e2, q2, m2, b1, b2, b3, b4, b5, b6⟩ := s_28x (sp := sp) (ph := ph) (d := d) (lo := 0) (hi := ((L + R : Nat) : Int) - 1) a3 (by omega) (by omega) (by omega)
        have z := b6.2 rfl
        rw [hn] at z
        dsimp only at z ⊢
        have e2n : e2 ≠ 0 := by rw [z.1]; exact z.2.2
        have hW2 : q_W m2 20 w := q_W_F hW1 b2 (fun r => by unfold u_tf at r; omega) (fun k r => by unfold u_tf at r; omega)
        have F2 := q_F_trans F1 (q_F_mono b2 u_tf_wf)
        obtain ⟨u, rfl⟩ : ∃ u : Nat, v = u := ⟨v.toNat, by omega⟩
        rw [b1, e_bI, n_bit (by omega) (by omega)]
        cases hbit : x.testBit u
        · obtain ⟨m3, c1, c2, c3⟩ := l_69f (sp := sp) (ph := ph) (d := d) (b := b) (x := (x : Int)) (v := (u : Int)) (i := w.length) b3 e2n hW2 hw12
          rw [if_neg (show ¬ (false = true) by decide), if_pos (by decide), c1]
          exact ⟨p2, e2, q2, m3, rfl, q_F_trans F2 c2, c3, z⟩
        · obtain ⟨m4, d1, d2, d3, d4⟩ := s_21 (sp := sp) (ph := ph) (d := d + 2) (k := 2) b3 (by omega) (by omega) rfl
          rw [u_fl_ne e2n] at d3
          have hW4 : q_W m4 20 w := q_W_F hW2 d2 (fun r => by unfold u_tf at r; omega) (fun k r => by unfold u_tf at r; omega)
          obtain ⟨m3, c1, c2, c3⟩ := l_69f (sp := sp) (ph := ph) (d := d) (b := b) (x := (x : Int)) (v := (u : Int)) (i := w.length) d3 e2n hW4 hw12
          rw [if_pos rfl, if_neg (by decide), d1, e_bV, c1]
          exact ⟨p2, e2, q2, m3, rfl, q_F_trans F2 (q_F_trans (q_F_mono d2 u_tf_wf) c2), c3, z⟩
      | inr y =>
        obtain ⟨y1, y2, y3, y4, y5⟩ := u_nr_ok hn
        obtain ⟨m2, b1, b2, b3, b4⟩ := s_28t (sp := sp) (ph := ph) (d := d) (lo := 0) (hi := ((L + R : Nat) : Int) - 1) a3 (by omega) (by omega) y3
        have idm : u_sc u_bl f n (u_sc u_bl f n p) = u_sc u_bl f n p := u_sc_no (u_sc_end rfl h.2.1)
        rw [idm] at b4
        have hW2 : q_W m2 20 w := q_W_F hW1 b2 (fun r => by unfold u_tf at r; omega) (fun k r => by unfold u_tf at r; omega)
        have F2 := q_F_trans F1 (q_F_mono b2 u_tf_wf)
        obtain ⟨p2, hp2⟩ : ∃ p2, p2 = y.2 := ⟨_, rfl⟩
        obtain ⟨u, hu⟩ : ∃ u : Nat, y.1 = u := ⟨y.1.toNat, by omega⟩
        rw [← y4] at b1
        rw [← y5] at b3
        dsimp only
        rw [hu] at b1 y1 y2 ⊢
        rw [Int.toNat_natCast, b1, e_bI, n_bit (by omega) (by omega)]
        cases hbit : x.testBit u
        · have hl : w.length < 12 := by
            have := u_wi_12 (u_wi_add hi (by omega) hbit)
            rw [List.length_append, List.length_singleton] at this
            omega
          have s63 := s_63k (sp := sp) (ph := ph) (d := d + 2) (m := m2) (a := 20) (w := w) (k := w.length) (h := u) hW2 rfl hl
          have hor : z_ior (x : Int) (z_ishl 1 (u : Int)) = ((x ||| 1 <<< u : Nat) : Int) := by
            have p12 : 1 <<< u < 2 ^ 12 := by rw [Nat.one_shiftLeft]; exact Nat.pow_lt_pow_right (by decide) (by omega)
            rw [show (1 : Int) = ((1 : Nat) : Int) from rfl, n_ishl (by omega) (by omega), n_ior (by omega) (by omega)]
          have hT3 : u_TP (y_sI (y_sI m2 21 w.length u) 20 1 ((w.length : Int) + 1)) f n y.2 0 q := u_TP_W b3
          have F3 : q_F u_wf m2 (y_sI (y_sI m2 21 w.length u) 20 1 ((w.length : Int) + 1)) := q_F_trans (q_F_sI (by unfold u_wf; omega)) (q_F_sI (by unfold u_wf; omega))
          have e3 : ∀ j, y_mI (y_sI (y_sI m2 21 w.length u) 20 1 ((w.length : Int) + 1)) b j = y_mI m b j := fun j => q_F_I (q_F_trans F2 F3) b j (fun r => by unfold u_wf u_tf at r; omega)
          obtain ⟨p', e', q', m3, c1, c2, c3, c4⟩ := ih y.2 (x ||| 1 <<< u) (w ++ [u]) _ (by rw [List.length_append, List.length_singleton]; omega) hT3 (by rw [e3]; exact h1) (by rw [e3]; exact h2) (u_wi_add hi (by omega) hbit) (u_W_add hW2 rfl hl)
          rw [if_neg (show ¬ (false = true) by decide), if_pos (by decide), y_E_69_63, s63, e_bV, hor, if_neg (show ¬ (false = true) by decide)]
          rw [List.length_append, List.length_singleton] at c1
          exact ⟨p', e', q', m3, c1, q_F_trans F2 (q_F_trans F3 c2), c3, c4⟩
        · obtain ⟨m4, d1, d2, d3, d4⟩ := s_21 (sp := sp) (ph := ph) (d := d + 2) (k := 2) b3 (by omega) (by omega) b4
          have e2n : (u_fl 0 q 2 (u_sc u_bl f n p : Nat)).1 ≠ 0 := by show ¬ (2 : Int) = 0; decide
          have hW4 : q_W m4 20 w := q_W_F hW2 d2 (fun r => by unfold u_tf at r; omega) (fun k r => by unfold u_tf at r; omega)
          obtain ⟨m3, c1, c2, c3⟩ := l_69f (sp := sp) (ph := ph) (d := d) (b := b) (x := (x : Int)) (v := (u : Int)) (i := w.length) d3 e2n hW4 hw12
          rw [if_pos rfl, if_neg (by decide), d1, e_bV, c1, if_pos rfl]
          exact ⟨_, _, _, m3, rfl, q_F_trans F2 (q_F_trans (q_F_mono d2 u_tf_wf) c2), c3, rfl, rfl, by show ¬ (2 : Int) = 0; decide⟩
end Way
