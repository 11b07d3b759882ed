section Way
variable {sp : Nat → Nat} {ph : Bool} {d : Nat} {m m' : y_m} {f : Nat → Int} {n p cnt : Nat} {e q lo hi : Int} {L R A B t lw X b : Nat} {w : List Nat}
def u_rw (a k : Nat) : Prop := u_rf a k ∨ (a = 53 ∧ k < 12)
def u_vr (q : Int) (r : (Int × Int) ⊕ List Nat) (m' : y_m) (e' q' : Int) (x2 : Int) : Prop := match r with
  | .inl y => e' = y.1 ∧ q' = y.2 ∧ y.1 ≠ 0
  | .inr w => e' = 0 ∧ q' = q ∧ x2 = (w.length : Nat) ∧ w.length ≤ 12 ∧ ∀ i, i < w.length → y_mI m' 53 i = ((w.getD i 0 : Nat) : Int)
theorem u_rf_rw : ∀ a k, u_rf a k → u_rw a k := fun _ _ r => Or.inl r
theorem u_RP_53 {k : Nat} {x : Int} (h : u_RP m f n p e q cnt) : u_RP (y_sI m 53 k x) f n p e q cnt := u_RP_F (Q := fun y z => y = 53 ∧ z = k) h (q_F_sI ⟨rfl, rfl⟩) (fun y z r => by omega)
theorem l_195g {x2 : Int} (h : u_RP m f n p e q cnt) (he : e ≠ 0) : y_R sp ph (d + 3) 195 222 [some (y_bo 11 0 49), none, some (y_bi x2), none, none, none] [] m = y_R sp ph (d + 3) 195 243 [some (y_bo 11 0 49), none, some (y_bi x2), none, none, none] [] m := by
  have eb := h.2.2.2.2.2.2.2
  rw [y_E_195_222, h.2.2.2.2.1, if_pos (by rw [z_w_id (by omega) (by omega)]; exact he)]
theorem l_195h {x2 x3 x5 : Int} (h : u_RP m f n p e q cnt) (he : e ≠ 0) : y_R sp ph (d + 3) 195 154 [some (y_bo 11 0 49), none, some (y_bi x2), some (y_bi x3), none, some (y_bi x5)] [] m = y_R sp ph (d + 3) 195 243 [some (y_bo 11 0 49), none, some (y_bi x2), none, none, none] [] m := by
  have eb := h.2.2.2.2.2.2.2
  rw [y_E_195_154, h.2.2.2.2.1, if_neg (by rw [z_w_id (by omega) (by omega)]; exact he), l_195g h he]
theorem l_195b {x2 x3 x4 x5 : Int} (h : u_RP m f n p e q cnt) : ∃ m', y_R sp ph (d + 3) 195 131 [some (y_bo 11 0 49), none, some (y_bi x2), some (y_bi x3), some (y_bi x4), some (y_bi x5)] [] m = y_R sp ph (d + 3) 195 243 [some (y_bo 11 0 49), none, some (y_bi x2), none, none, none] [] m' ∧ q_F u_rw m m' ∧ u_RP m' f n p (u_fl e q 2 x4).1 (u_fl e q 2 x4).2 cnt := by
  obtain ⟨m1, a1, a2, a3⟩ := t_184 (sp := sp) (ph := ph) (d := d + 2) (k := 2) (w := x4) h (by omega) (by omega)
  refine ⟨m1, ?_, q_F_mono a2 u_rf_rw, a3⟩
  rw [y_E_195_131, a1, e_bV, l_195h a3 (by
    unfold u_fl
    by_cases c : e = 0
    · rw [if_pos c]; show ¬ (2 : Int) = 0; decide
    · rw [if_neg c]; exact c)]
theorem l_195c {x2 x3 x4 x5 : Int} (h : u_RP m f n p e q cnt) (he : e ≠ 0) : ∃ m', y_R sp ph (d + 3) 195 141 [some (y_bo 11 0 49), none, some (y_bi x2), some (y_bi x3), some (y_bi x4), some (y_bi x5)] [] m = y_R sp ph (d + 3) 195 243 [some (y_bo 11 0 49), none, some (y_bi x2), none, none, none] [] m' ∧ q_F u_rw m m' ∧ u_RP m' f n p e q cnt := by
  rw [y_E_195_141]
  by_cases c : ¬ z_w x2 = 12
  · rw [if_pos c, l_195h h he]
    exact ⟨m, rfl, q_F_refl, h⟩
  · obtain ⟨m1, a1, a2, a3⟩ := t_184 (sp := sp) (ph := ph) (d := d + 2) (k := 3) (w := x4) h (by omega) (by omega)
    rw [u_fl_ne he] at a3
    rw [if_neg c, a1, e_bV, l_195h a3 he]
    exact ⟨m1, rfl, q_F_mono a2 u_rf_rw, a3⟩
theorem l_195 (hL : L ≤ 6) (hR : R ≤ 6) (hH : 1 ≤ L + R) : ∀ (k p x : Nat) (w : List Nat) (m : y_m), w.length + k = 13 → p ≤ n → u_RP m f n (u_sc u_bl f n p) 0 q cnt → y_mI m 52 0 = L → y_mI m 52 1 = R → u_wi t (L + R) x w → (∀ i, i < w.length → y_mI m 53 i = ((w.getD i 0 : Nat) : Int)) → ∃ p' e' q' x2 m', y_R sp ph (d + 3) 195 53 [some (y_bo 11 0 49), none, some (y_bi (w.length : Int)), some (y_bi (x : Int)), none, none] [] m = y_R sp ph (d + 3) 195 243 [some (y_bo 11 0 49), none, some (y_bi x2), none, none, none] [] m' ∧ q_F u_rw m m' ∧ u_RP m' f n p' e' q' cnt ∧ u_vr q (u_wy f n (L + R) k p x w) m' e' q' x2 := by
  intro k
  induction k with
  | zero =>
    intro p x w m hk hp h h1 h2 hi hW
    have := u_wi_12 hi
    omega
  | succ k ih =>
    intro p x w m hk hp h h1 h2 hi hW
    have hw12 := u_wi_12 hi
    have hn := h.1.1
    have hb := (u_sc_b (P := u_bl) (f := f) hp)
    have cb := u_c_b (p := u_sc u_bl f n p) h.1
    have idm : u_sc u_bl f n (u_sc u_bl f n p) = u_sc u_bl f n p := u_sc_no (u_sc_end rfl hp)
    have t182 := t_182 (sp := sp) (ph := ph) (d := d + 2) (x := u_sc u_bl f n p) h (by omega)
    have t185 := t_185 (sp := sp) (ph := ph) (d := d + 2) (m := m) cb.1 cb.2
    rw [y_E_195_53, h.2.2.2.2.1, if_neg (by decide), h.2.2.1, h.2.2.2.1, u_wy]
    by_cases c : n ≤ u_sc u_bl f n p
    · rw [if_pos (by rw [z_w_id (by omega) (by omega), z_w_id (by omega) (by omega)]; omega), if_pos c, y_E_195_222, h.2.2.2.2.1, if_neg (by decide)]
      by_cases c3 : 3 ≤ w.length
      · rw [if_pos (by rw [z_w_id (by omega) (by omega)]; omega), if_pos c3]
        exact ⟨_, 0, q, _, m, rfl, q_F_refl, h, rfl, rfl, rfl, hw12, hW⟩
      · obtain ⟨m2, b1, b2, b3⟩ := t_184 (sp := sp) (ph := ph) (d := d + 2) (k := 4) (w := (n : Int)) h (by omega) (by omega)
        rw [if_neg (by rw [z_w_id (by omega) (by omega)]; omega), if_neg c3, h.2.2.1, b1, e_bV]
        exact ⟨_, _, _, _, m2, rfl, q_F_mono b2 u_rf_rw, b3, rfl, rfl, by show ¬ (4 : Int) = 0; decide⟩
    · have hx : (x : Int) < 4096 := by have := hi.2.1; omega
      rw [if_neg (by rw [z_w_id (by omega) (by omega), z_w_id (by omega) (by omega)]; omega), if_neg c, t182, e_bI, t185, e_bI]
      unfold u_nr u_nk u_nv u_np
      rw [idm]
      have e52 : ∀ {m1 : y_m} (F : q_F u_rw m m1) j, y_mI m1 52 j = y_mI m 52 j := fun F j => q_F_I F 52 j (fun r => by unfold u_rw u_rf at r; omega)
      cases hd : u_di (u_c f n (u_sc u_bl f n p))
      · -- no digit
        obtain ⟨m2, b1, b2, b3⟩ := t_184 (sp := sp) (ph := ph) (d := d + 2) (k := 1) (w := (u_sc u_bl f n p : Nat)) h (by omega) (by omega)
        have e2 : (u_fl 0 q 1 (u_sc u_bl f n p : Nat)) = ((1 : Int), ((u_sc u_bl f n p : Nat) : Int)) := by unfold u_fl; rw [if_pos rfl]
        rw [e2] at b3
        obtain ⟨m3, c1, c2, c3⟩ := t_186 (sp := sp) (ph := ph) (d := d + 1) b3
        rw [u_dw_no hd, u_sc_no hd] at *
        have F3 : q_F u_rw m m3 := q_F_trans (q_F_mono b2 u_rf_rw) (q_F_mono c2 u_rf_rw)
        have t199 := t_199 (sp := sp) (ph := ph) (d := d + 2) (m := m3)
        rw [e52 F3, e52 F3, h1, h2] at t199
        have t180 := t_180 (sp := sp) (ph := ph) (d := d + 2) (m := m3) (v := 0) (lo := 0) (hi := (L : Int) + (R : Int) - 1) (by omega) (by omega) (by omega) (by omega) (by omega) (by omega)
        have nb := n_bit (s := x) (h := 0) (by omega) (by omega)
        rw [if_neg (by decide), h.2.2.2.1, b1, e_bV, y_E_195_100, c1, e_bI, t199, e_bI, t180, e_bI, decide_eq_true (show (0 : Int) ≤ 0 ∧ 0 ≤ (L : Int) + (R : Int) - 1 by omega), if_neg (by decide)]
        have nb' : z_iand (z_ishr (x : Int) 0) 1 = if x.testBit 0 then 1 else 0 := nb
        rw [nb', if_pos rfl, if_neg (show ¬ ((1 : Int) = 0) by decide)]
        cases x.testBit 0
        · obtain ⟨m4, d1, d2, d3⟩ := l_195c (sp := sp) (ph := ph) (d := d) (x2 := (w.length : Int)) (x3 := (x : Int)) (x4 := (u_sc u_bl f n p : Nat)) (x5 := 0) c3 (by show ¬ (1 : Int) = 0; decide)
          rw [if_pos (by decide), d1]
          exact ⟨_, _, _, _, m4, rfl, q_F_trans F3 d2, d3, rfl, rfl, by show ¬ (1 : Int) = 0; decide⟩
        · obtain ⟨m4, d1, d2, d3⟩ := l_195b (sp := sp) (ph := ph) (d := d) (x2 := (w.length : Int)) (x3 := (x : Int)) (x4 := (u_sc u_bl f n p : Nat)) (x5 := 0) c3
          rw [u_fl_ne (by show ¬ (1 : Int) = 0; decide)] at d3
          rw [if_neg (by decide), d1]
          exact ⟨_, _, _, _, m4, rfl, q_F_trans F3 d2, d3, rfl, rfl, by show ¬ (1 : Int) = 0; decide⟩
      · obtain ⟨m3, c1, c2, c3⟩ := t_186 (sp := sp) (ph := ph) (d := d + 1) h
        have vb := u_dw_b (f := f) (n := n) (p := u_sc u_bl f n p) (v := 0) (by omega) (by omega)
        have F3 : q_F u_rw m m3 := q_F_mono c2 u_rf_rw
        have t199 := t_199 (sp := sp) (ph := ph) (d := d + 2) (m := m3)
        rw [e52 F3, e52 F3, h1, h2] at t199
        have t180 := t_180 (sp := sp) (ph := ph) (d := d + 2) (m := m3) (v := u_dw f n (u_sc u_bl f n p) 0) (lo := 0) (hi := (L : Int) + (R : Int) - 1) (by omega) (by omega) (by omega) (by omega) (by omega) (by omega)
        rw [if_pos (by decide), y_E_195_100, c1, e_bI, t199, e_bI, t180, e_bI]
        have g : ¬ (true = false) := by decide
        simp only [if_neg g]
        obtain ⟨v, hv⟩ : ∃ v : Nat, u_dw f n (u_sc u_bl f n p) 0 = v := ⟨_, (Int.toNat_of_nonneg vb.1).symm⟩
        rw [hv] at vb ⊢
        by_cases o : (v : Int) < 0 ∨ ((L + R : Nat) : Int) - 1 < (v : Int)
        · obtain ⟨m4, d1, d2, d3⟩ := l_195b (sp := sp) (ph := ph) (d := d) (x2 := (w.length : Int)) (x3 := (x : Int)) (x4 := (u_sc u_bl f n p : Nat)) (x5 := (v : Int)) c3
          rw [decide_eq_false (by omega), if_pos (by decide), d1]
          simp only [if_pos o, show ¬ ((2 : Int) = 0) by decide, reduceIte]
          exact ⟨_, _, _, _, m4, rfl, q_F_trans F3 d2, d3, rfl, rfl, by show ¬ (2 : Int) = 0; decide⟩
        · simp only [if_neg o, reduceIte]
          have vH : v < L + R := by omega
          rw [decide_eq_true (show (0 : Int) ≤ (v : Int) ∧ (v : Int) ≤ (L : Int) + (R : Int) - 1 by omega), if_neg (by decide), n_bit (by omega) (by omega), Int.toNat_natCast]
          cases hbit : x.testBit v
          · have hl : w.length < 12 := by
              have := u_wi_12 (u_wi_add hi vH hbit)
              rw [List.length_append, List.length_singleton] at this
              omega
            have hor : z_ior (x : Int) (z_ishl 1 (v : Int)) = ((x ||| 1 <<< v : Nat) : Int) := by
              have p12 : 1 <<< v < 2 ^ 12 := by rw [Nat.one_shiftLeft]; exact Nat.pow_lt_pow_right (by decide) (by omega)
              rw [show (1 : Int) = ((1 : Nat) : Int) from rfl, n_ishl (by omega) (by omega), n_ior (by omega) (by omega)]
            have hT := u_RP_53 (k := w.length) (x := (v : Int)) c3
            have F4 : q_F u_rw m (y_sI m3 53 w.length v) := q_F_trans F3 (q_F_sI (by unfold u_rw; omega))
            have hW4 : ∀ i, i < (w ++ [v]).length → y_mI (y_sI m3 53 w.length v) 53 i = (((w ++ [v]).getD i 0 : Nat) : Int) := fun i hi => by
              rw [List.length_append, List.length_singleton] at hi
              by_cases c : i = w.length
              · subst c
                rw [e_II, List.getD_eq_getElem?_getD, List.getElem?_append_right (Nat.le_refl _), Nat.sub_self]; rfl
              · rw [e_II' (by omega), q_F_I c2 53 i (fun r => by unfold u_rf at r; omega), hW i (by omega), List.getD_eq_getElem?_getD, List.getD_eq_getElem?_getD, List.getElem?_append_left (by omega)]
            rw [if_neg (show ¬ (false = true) by decide), if_pos (by decide), y_E_195_141, if_pos (by rw [z_w_id (by omega) (by omega)]; omega), y_E_195_154, c3.2.2.2.2.1, if_pos (by decide), y_E_195_164, e_g ⟨by omega, by omega⟩, Int.toNat_natCast, hor, hT.2.2.1, hT.2.2.2.1, if_neg (show ¬ (false = true) by decide)]
            generalize hM : y_sI m3 53 w.length (v : Int) = M at *
            have hp2 := hT.2.1
            have ew : (w.length : Int) + 1 = ((w ++ [v]).length : Nat) := by rw [List.length_append, List.length_singleton]; omega
            have hk' : (w ++ [v]).length + k = 13 := by rw [List.length_append, List.length_singleton]; omega
            have nx : ∀ (M5 : y_m), q_F u_rw m M5 → u_RP M5 f n (u_sc u_di f n (u_sc u_bl f n p)) 0 q cnt → (∀ i, i < (w ++ [v]).length → y_mI M5 53 i = (((w ++ [v]).getD i 0 : Nat) : Int)) → ∃ p' e' q' x2 m', y_R sp ph (d + 3) 195 215 [some (y_bo 11 0 49), none, some (y_bi ((w.length : Int) + 1)), some (y_bi ((x ||| 1 <<< v : Nat) : Int)), none, none] [] M5 = y_R sp ph (d + 3) 195 243 [some (y_bo 11 0 49), none, some (y_bi x2), none, none, none] [] m' ∧ q_F u_rw m m' ∧ u_RP m' f n p' e' q' cnt ∧ u_vr q (u_wy f n (L + R) k (u_sc u_di f n (u_sc u_bl f n p)) (x ||| 1 <<< v) (w ++ [v])) m' e' q' x2 := by
              intro M5 F5 hT5 hW5
              obtain ⟨m6, s1, s2, s3⟩ := t_183 (sp := sp) (ph := ph) (d := d + 1) hT5
              have F6 := q_F_trans F5 (q_F_mono s2 u_rf_rw)
              obtain ⟨p', e', q', x2, m7, r1, r2, r3, r4⟩ := ih (u_sc u_di f n (u_sc u_bl f n p)) (x ||| 1 <<< v) (w ++ [v]) m6 hk' hp2 s3 (by rw [e52 F6]; exact h1) (by rw [e52 F6]; exact h2) (u_wi_add hi vH hbit) (fun i hi => by rw [q_F_I s2 53 i (fun r => by unfold u_rf at r; omega)]; exact hW5 i hi)
              refine ⟨p', e', q', x2, m7, ?_, q_F_trans F6 r2, r3, r4⟩
              rw [y_E_195_215, s1, e_bV, ew]
              exact r1
            by_cases ce : n ≤ u_sc u_di f n (u_sc u_bl f n p)
            · rw [if_pos (by rw [z_w_id (by omega) (by omega), z_w_id (by omega) (by omega)]; omega)]
              exact nx M F4 hT hW4
            · have t182b := t_182 (sp := sp) (ph := ph) (d := d + 2) (x := u_sc u_di f n (u_sc u_bl f n p)) hT (by omega)
              have cb2 := u_c_b (p := u_sc u_di f n (u_sc u_bl f n p)) h.1
              rw [if_neg (by rw [z_w_id (by omega) (by omega), z_w_id (by omega) (by omega)]; omega), t182b, e_bI]
              by_cases c32 : u_c f n (u_sc u_di f n (u_sc u_bl f n p)) = 32
              · rw [if_pos (by rw [c32]; decide)]
                exact nx M F4 hT hW4
              · obtain ⟨m5, s1, s2, s3⟩ := t_184 (sp := sp) (ph := ph) (d := d + 2) (k := 1) (w := (u_sc u_di f n (u_sc u_bl f n p) : Nat)) hT (by omega) (by omega)
                have e2 : (u_fl 0 q 1 (u_sc u_di f n (u_sc u_bl f n p) : Nat)) = ((1 : Int), ((u_sc u_di f n (u_sc u_bl f n p) : Nat) : Int)) := by unfold u_fl; rw [if_pos rfl]
                rw [e2] at s3
                obtain ⟨m6, r1, r2, r3⟩ := t_183 (sp := sp) (ph := ph) (d := d + 1) s3
                rw [if_neg (by rw [z_w_id (by omega) (by omega)]; exact c32), hT.2.2.2.1, s1, e_bV, y_E_195_215, r1, e_bV, y_E_195_53, r3.2.2.2.2.1, if_pos (by show ¬ z_w 1 = 0; decide), l_195g r3 (by show ¬ (1 : Int) = 0; decide)]
                refine ⟨_, 1, _, _, m6, rfl, q_F_trans F4 (q_F_trans (q_F_mono s2 u_rf_rw) (q_F_mono r2 u_rf_rw)), r3, ?_⟩
                -- the next number is none
                have k1 : ∃ k', k = k' + 1 := by
                  cases k with
                  | zero => rw [List.length_append, List.length_singleton] at hk'; omega
                  | succ k' => exact ⟨k', rfl⟩
                obtain ⟨k', rfl⟩ := k1
                have bl : u_sc u_bl f n (u_sc u_di f n (u_sc u_bl f n p)) = u_sc u_di f n (u_sc u_bl f n p) := u_sc_no (decide_eq_false c32)
                have dn : u_di (u_c f n (u_sc u_di f n (u_sc u_bl f n p))) = false := u_sc_end rfl hb.2
                have nr : u_nr f n 0 (((L + R : Nat) : Int) - 1) (u_sc u_di f n (u_sc u_bl f n p)) = .inl (1, (u_sc u_di f n (u_sc u_bl f n p) : Nat)) := by
                  unfold u_nr u_nk
                  rw [bl, if_pos dn, if_neg (by decide)]
                rw [u_wy, bl, if_neg ce, nr]
                exact ⟨rfl, rfl, by show ¬ (1 : Int) = 0; decide⟩
          · obtain ⟨m4, d1, d2, d3⟩ := l_195b (sp := sp) (ph := ph) (d := d) (x2 := (w.length : Int)) (x3 := (x : Int)) (x4 := (u_sc u_bl f n p : Nat)) (x5 := (v : Int)) c3
            rw [if_pos rfl, if_neg (by decide), d1, if_pos rfl]
            exact ⟨_, _, _, _, m4, rfl, q_F_trans F3 d2, d3, rfl, rfl, by show ¬ (2 : Int) = 0; decide⟩
end Way
