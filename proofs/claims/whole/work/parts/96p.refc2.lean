section Clause
variable {sp : Nat → Nat} {ph : Bool} {d : Nat} {m : y_m} {f : Nat → Int} {n p cnt : Nat} {e q lo hi : Int} {g : Nat → Nat}
/-- the end of a clause -/
def u_ce (f : Nat → Int) (n : Nat) (r : (Int × Int) ⊕ (Nat × (Nat → Nat))) : (Int × Int) ⊕ (Nat × (Nat → Nat)) := match r with
  | .inl x => .inl x
  | .inr x => if u_c f n (u_sc u_bl f n x.1) = 59 then .inr (u_sc u_bl f n x.1 + 1, x.2) else .inl (1, (u_sc u_bl f n x.1 : Nat))
theorem l_192e {r : (Int × Int) ⊕ (Nat × (Nat → Nat))} (h : u_RP m f n p e q cnt) (hG : e = 0 → u_RB m g) {q0 : Int} (hv : u_vx 0 q0 r p g e q) : ∃ p' e' q' m', y_R sp ph (d + 4) 192 353 [some (y_bo 11 0 49), none] [] m = y_rV m' ∧ q_F u_rf m m' ∧ u_RP m' f n p' e' q' cnt ∧ (e' = 0 → u_RB m' g) ∧ u_vx 0 q0 (u_ce f n r) p' g e' q' := by
  have x := hv.2 rfl
  have eb := h.2.2.2.2.2.2.2
  rw [y_E_192_353, h.2.2.2.2.1]
  unfold u_ce
  cases r with
  | inl r =>
    dsimp only at x ⊢
    have en : ¬ e = 0 := by rw [x.1]; exact x.2.2
    rw [if_neg (by rw [z_w_id (by omega) (by omega)]; exact en)]
    exact ⟨p, e, q, m, rfl, q_F_refl, h, hG, fun r => absurd rfl r, fun _ => x⟩
  | inr r =>
    dsimp only at x ⊢
    obtain ⟨x1, x2, x3, x4⟩ := x
    obtain ⟨m1, a1, a2, a3⟩ := t_183 (sp := sp) (ph := ph) (d := d + 2) h
    have hp := a3.2.1
    have hn := h.1.1
    have cb := u_c_b (p := u_sc u_bl f n p) h.1
    have t182 := t_182 (sp := sp) (ph := ph) (d := d + 3) (x := u_sc u_bl f n p) a3 (by omega)
    rw [if_pos (by rw [x3]; decide), y_E_192_361, a1, e_bV, a3.2.2.2.1, t182, e_bI, ← x1]
    by_cases c : u_c f n (u_sc u_bl f n p) = 59
    · have hlt : u_sc u_bl f n p < n := by
        rcases Nat.lt_or_ge (u_sc u_bl f n p) n with r | r
        · exact r
        · rw [u_c_end r] at c; omega
      have F := q_F_trans a2 (q_F_sI (m := m1) (a := 49) (k := 4) (x := ((u_sc u_bl f n p : Nat) : Int) + 1) (S := u_rf) (by unfold u_rf; omega))
      rw [if_neg (by rw [c]; decide), y_E_192_400, a3.2.2.2.1, if_pos c]
      exact ⟨u_sc u_bl f n p + 1, e, q, _, rfl, F, u_RP_sp a3 (by omega) (by omega), fun he => u_RB_F (hG he) F u_rf_51, fun r => absurd rfl r, fun _ => ⟨rfl, x2, x3, x4⟩⟩
    · obtain ⟨m2, b1, b2, b3⟩ := t_184 (sp := sp) (ph := ph) (d := d + 3) (k := 1) (w := (u_sc u_bl f n p : Nat)) a3 (by omega) (by omega)
      have F := q_F_trans a2 b2
      rw [if_pos (by rw [z_w_id (by omega) (by omega)]; exact c), y_E_192_391, a3.2.2.2.1, b1, e_bV, y_E_192_400, if_neg c]
      refine ⟨_, _, _, m2, rfl, F, b3, fun he => ?_, fun r => absurd rfl r, fun _ => ?_⟩
      · unfold u_fl at he
        rw [if_pos x3] at he
        cases he
      · unfold u_fl
        rw [if_pos x3]
        exact ⟨rfl, rfl, by show ¬ (1 : Int) = 0; decide⟩
theorem t_192 (hcnt : cnt ≤ 40) (h : u_RP m f n p 0 q cnt) (hG : u_RB m g) : ∃ p' g' e' q' cnt' m', y_V sp ph (d + 5) 192 [y_bo 11 0 49] m = y_rV m' ∧ q_F u_rc m m' ∧ u_RP m' f n p' e' q' cnt' ∧ cnt' ≤ cnt + 1 ∧ (e' = 0 → cnt' = cnt + 1 ∧ u_RB m' g') ∧ u_vx 0 q (u_cl f n p cnt g) p' g' e' q' := by
  obtain ⟨m1, a1, a2, a3⟩ := l_192w (sp := sp) (ph := ph) (d := d) h
  have hp1 := (u_sc_b (P := u_bl) (f := f) h.2.1)
  have hn := h.1.1
  have hG1 := u_RB_F hG a2 u_rf_51
  have F1 : q_F u_rc m m1 := q_F_mono a2 u_rf_rc
  have wk5 := u_wk_5 (f := f) (p1 := u_sc u_bl f n p) (p2 := u_wp f n p)
  have p4 := a3.2.2.2.1
  have ecl : u_cl f n p cnt g = if u_wk f (u_sc u_bl f n p) (u_wp f n p) = 5 then .inl (1, (u_sc u_bl f n p : Nat)) else
      if 40 ≤ cnt then .inl (3, (u_sc u_bl f n p : Nat)) else
      if u_wk f (u_sc u_bl f n p) (u_wp f n p) = 0 ∧ 0 < cnt then .inl (4, (u_sc u_bl f n p : Nat)) else
      u_ce f n (u_vals f n (u_wk f (u_sc u_bl f n p) (u_wp f n p)) (u_wp f n p) g) := rfl
  rw [ecl, y_C_192, a1, y_E_192_96]
  have wxb : -1 ≤ u_wx (u_wk f (u_sc u_bl f n p) (u_wp f n p)) ∧ u_wx (u_wk f (u_sc u_bl f n p) (u_wp f n p)) ≤ 6 := by
    unfold u_wx
    split <;> omega
  have err : ∀ (k : Int) (x1 : Int), 1 ≤ k → k ≤ 9 → ∃ m2, y_bV (y_V sp ph (d + 4) 184 [y_bo 11 0 49, y_bi k, y_bi (y_mI m1 49 4)] m1) (fun m2 => y_R sp ph (d + 4) 192 155 [some (y_bo 11 0 49), some (y_bi x1)] [] m2) (fun e m1 => y_px e m1) = y_rV m2 ∧ q_F u_rf m1 m2 ∧ u_RP m2 f n (u_sc u_bl f n p) k (u_sc u_bl f n p : Nat) cnt := by
    intro k x1 k1 k9
    obtain ⟨m2, b1, b2, b3⟩ := t_184 (sp := sp) (ph := ph) (d := d + 3) (k := k) (w := (u_sc u_bl f n p : Nat)) a3 (by omega) (by omega)
    unfold u_fl at b3
    rw [if_pos rfl] at b3
    refine ⟨m2, ?_, b2, b3⟩
    rw [p4, b1, e_bV, y_E_192_155, b3.2.2.2.2.1, if_neg (by rw [z_w_id (by omega) (by omega)]; omega)]
  by_cases c5 : u_wk f (u_sc u_bl f n p) (u_wp f n p) = 5
  · obtain ⟨m2, b1, b2, b3⟩ := err 1 (u_wx 5) (by omega) (by omega)
    rw [if_pos c5, c5, if_neg (by decide), b1]
    exact ⟨_, g, _, _, _, m2, rfl, q_F_trans F1 (q_F_mono b2 u_rf_rc), b3, by omega, (fun r => by cases r), fun r => absurd rfl r, fun _ => ⟨rfl, rfl, by show ¬ (1 : Int) = 0; decide⟩⟩
  · have wx1 : ¬ u_wx (u_wk f (u_sc u_bl f n p) (u_wp f n p)) = -1 := by
      generalize u_wk f (u_sc u_bl f n p) (u_wp f n p) = w at *
      rcases (show w = 0 ∨ w = 1 ∨ w = 2 ∨ w = 3 ∨ w = 4 by omega) with rfl | rfl | rfl | rfl | rfl <;> decide
    rw [if_neg c5, if_pos (by rw [z_w_id (by omega) (by omega)]; exact wx1), y_E_192_114, a3.2.2.2.2.2.2.1]
    by_cases c40 : 40 ≤ cnt
    · obtain ⟨m2, b1, b2, b3⟩ := err 3 (u_wx (u_wk f (u_sc u_bl f n p) (u_wp f n p))) (by omega) (by omega)
      rw [if_pos c40, if_neg (by rw [z_w_id (by omega) (by omega)]; omega), b1]
      exact ⟨_, g, _, _, _, m2, rfl, q_F_trans F1 (q_F_mono b2 u_rf_rc), b3, by omega, (fun r => by cases r), fun r => absurd rfl r, fun _ => ⟨rfl, rfl, by show ¬ (3 : Int) = 0; decide⟩⟩
    · rw [if_neg c40, if_pos (by rw [z_w_id (by omega) (by omega)]; omega)]
      have wx0 : (u_wx (u_wk f (u_sc u_bl f n p) (u_wp f n p)) = 0) = (u_wk f (u_sc u_bl f n p) (u_wp f n p) = 0) := by
        generalize u_wk f (u_sc u_bl f n p) (u_wp f n p) = w at *
        rcases (show w = 0 ∨ w = 1 ∨ w = 2 ∨ w = 3 ∨ w = 4 by omega) with rfl | rfl | rfl | rfl | rfl <;> decide
      by_cases c4 : u_wk f (u_sc u_bl f n p) (u_wp f n p) = 0 ∧ 0 < cnt
      · obtain ⟨m2, b1, b2, b3⟩ := err 4 (u_wx (u_wk f (u_sc u_bl f n p) (u_wp f n p))) (by omega) (by omega)
        rw [if_pos c4, y_E_192_135, a3.2.2.2.2.2.2.1, if_neg (by rw [c4.1]; decide), if_neg (by rw [z_w_id (by omega) (by omega)]; omega), b1]
        exact ⟨_, g, _, _, _, m2, rfl, q_F_trans F1 (q_F_mono b2 u_rf_rc), b3, by omega, (fun r => by cases r), fun r => absurd rfl r, fun _ => ⟨rfl, rfl, by show ¬ (4 : Int) = 0; decide⟩⟩
      · have st : y_R sp ph (d + 4) 192 135 [some (y_bo 11 0 49), some (y_bi (u_wx (u_wk f (u_sc u_bl f n p) (u_wp f n p))))] [] m1 = y_R sp ph (d + 4) 192 155 [some (y_bo 11 0 49), some (y_bi (u_wx (u_wk f (u_sc u_bl f n p) (u_wp f n p))))] [] m1 := by
          rw [y_E_192_135, a3.2.2.2.2.2.2.1]
          by_cases k0 : u_wk f (u_sc u_bl f n p) (u_wp f n p) = 0
          · have : cnt = 0 := by omega
            rw [k0, this]
            rw [if_neg (by decide), if_pos (by decide)]
          · rw [if_pos (by rw [z_w_id (by omega) (by omega), wx0]; exact k0)]
        obtain ⟨m2, b1, b2, b3⟩ := l_192s (sp := sp) (ph := ph) (d := d + 2) (x1 := u_wx (u_wk f (u_sc u_bl f n p) (u_wp f n p))) (n - u_sc u_bl f n p) (u_sc u_bl f n p) m1 (by omega) a3
        have hwp : u_sc u_le f n (u_sc u_bl f n p) = u_wp f n p := rfl
        rw [hwp] at b3
        rw [if_neg c4, st, y_E_192_155, a3.2.2.2.2.1, if_pos (by decide), b1, y_E_192_202, b3.2.2.2.2.2.2.1]
        have h3 : u_RP (y_sI m2 49 7 ((cnt : Int) + 1)) f n (u_wp f n p) 0 q (cnt + 1) := u_RP_ct b3 (by omega)
        have F2 : q_F u_rc m (y_sI m2 49 7 ((cnt : Int) + 1)) := q_F_trans F1 (q_F_trans (q_F_mono b2 u_rf_rc) (q_F_sI (by unfold u_rc; omega)))
        have hG2 : u_RB (y_sI m2 49 7 ((cnt : Int) + 1)) g := u_RB_F (u_RB_F hG1 b2 u_rf_51) (q_F_sI (S := fun a _ => a = 49) rfl) (fun a k r => by omega)
        generalize y_sI m2 49 7 ((cnt : Int) + 1) = M at *
        have hg := hG2.1
        have fin : ∀ (X : y_m) (r : (Int × Int) ⊕ (Nat × (Nat → Nat))), (∃ p' g' e' q', q_F u_rc M X ∧ u_RP X f n p' e' q' (cnt + 1) ∧ (e' = 0 → u_RB X g') ∧ u_vx 0 q r p' g' e' q') → ∃ p' g' e' q' cnt' m', y_R sp ph (d + 4) 192 353 [some (y_bo 11 0 49), none] [] X = y_rV m' ∧ q_F u_rc m m' ∧ u_RP m' f n p' e' q' cnt' ∧ cnt' ≤ cnt + 1 ∧ (e' = 0 → cnt' = cnt + 1 ∧ u_RB m' g') ∧ u_vx 0 q (u_ce f n r) p' g' e' q' := by
          intro X r hx
          obtain ⟨p', g', e', q', x1, x2, x3, x4⟩ := hx
          obtain ⟨p2, e2, q2, m3, c1, c2, c3, c4, c5⟩ := l_192e (sp := sp) (ph := ph) (d := d) x2 x3 x4
          exact ⟨p2, g', e2, q2, cnt + 1, m3, c1, q_F_trans F2 (q_F_trans x1 (q_F_mono c2 u_rf_rc)), c3, Nat.le_refl _, fun he => ⟨rfl, c4 he⟩, c5⟩
        have k5 : u_wk f (u_sc u_bl f n p) (u_wp f n p) < 5 := by omega
        clear st err ecl
        generalize u_wk f (u_sc u_bl f n p) (u_wp f n p) = w at *
        rcases (show w = 0 ∨ w = 1 ∨ w = 2 ∨ w = 3 ∨ w = 4 by omega) with rfl | rfl | rfl | rfl | rfl
        · obtain ⟨v1, v2, m3, m4, p', g', e', q', s1, s2, s3, s4, s5, s6⟩ := l_192two (sp := sp) (ph := ph) (d := d + 1) (i := 0) (j := 1) (hi := 6) h3 hG2 (Or.inl ⟨rfl, rfl, rfl⟩)
          rw [if_neg (by decide), s1, e_bI, s2, e_bI]
          exact fin _ _ ⟨p', g', e', q', s3, s4, s5, s6⟩
        · obtain ⟨v1, v2, m3, m4, p', g', e', q', s1, s2, s3, s4, s5, s6⟩ := l_192two (sp := sp) (ph := ph) (d := d + 1) (i := 2) (j := 3) (hi := 99) h3 hG2 (Or.inr ⟨rfl, rfl, rfl⟩)
          rw [if_pos (by decide), y_E_192_245, if_neg (by decide), s1, e_bI, s2, e_bI]
          exact fin _ _ ⟨p', g', e', q', s3, s4, s5, s6⟩
        · have hs : ∀ v : Int, 0 ≤ v → v ≤ (g 0 : Int) + (g 1 : Int) - 1 → z_ior ((g 4 : Nat) : Int) (z_ishl 1 v) = ((g 4 ||| 1 <<< v.toNat : Nat) : Int) := fun v h1 h2 => by
            obtain ⟨w, rfl⟩ : ∃ w : Nat, v = w := ⟨v.toNat, by omega⟩
            unfold u_gr at hg
            have p12 : 1 <<< w < 2 ^ 12 := by rw [Nat.one_shiftLeft]; exact Nat.pow_lt_pow_right (by decide) (by omega)
            rw [Int.toNat_natCast, show (1 : Int) = ((1 : Nat) : Int) from rfl, n_ishl (by omega) (by omega), n_ior (by omega) (by omega)]
          obtain ⟨v1, m3, p', g', e', q', s1, s2, s3, s4, s5, s6⟩ := l_192one (sp := sp) (ph := ph) (d := d + 1) (i := 4) (lo := 0) (hi := (g 0 : Int) + (g 1 : Int) - 1) (w := fun v => g 4 ||| 1 <<< v.toNat) (z := fun v => z_ior ((g 4 : Nat) : Int) (z_ishl 1 v)) h3 hG2 (by omega) (by omega) (by unfold u_gr at hg; omega) (by unfold u_gr at hg; omega) hs (fun v h1 h2 => by
            have hg2 := hg
            unfold u_gr at hg2
            have := u_or_lt (t := g 4) (v := v.toNat) (by omega) (by omega)
            unfold u_gr u_up at *
            simp; omega)
          have e6 : y_mI M 51 6 = (g 4 : Nat) := hG2.2.2.2.2.2.2.2
          rw [if_pos (by decide), y_E_192_245, if_pos (by decide), y_E_192_279, if_pos (by decide), y_E_192_299, if_pos (by decide), y_E_192_321, hG2.2.1, hG2.2.2.1, s1, e_bI, e6]
          exact fin _ _ ⟨p', g', e', q', s3, s4, s5, s6⟩
        · obtain ⟨v1, m3, p', g', e', q', s1, s2, s3, s4, s5, s6⟩ := l_192one (sp := sp) (ph := ph) (d := d + 1) (i := 5) (lo := 0) (hi := 2) (w := fun v => v.toNat) (z := fun v => v) h3 hG2 (by omega) (by omega) (by omega) (by omega) (fun v h1 h2 => by omega) (fun v h1 h2 => by unfold u_gr u_up at *; simp; omega)
          rw [if_pos (by decide), y_E_192_245, if_pos (by decide), y_E_192_279, if_neg (by decide), s1, e_bI]
          exact fin _ _ ⟨p', g', e', q', s3, s4, s5, s6⟩
        · obtain ⟨v1, m3, p', g', e', q', s1, s2, s3, s4, s5, s6⟩ := l_192one (sp := sp) (ph := ph) (d := d + 1) (i := 6) (lo := 1) (hi := 9999) (w := fun v => v.toNat) (z := fun v => v) h3 hG2 (by omega) (by omega) (by omega) (by omega) (fun v h1 h2 => by omega) (fun v h1 h2 => by unfold u_gr u_up at *; simp; omega)
          rw [if_pos (by decide), y_E_192_245, if_pos (by decide), y_E_192_279, if_pos (by decide), y_E_192_299, if_neg (by decide), s1, e_bI]
          exact fin _ _ ⟨p', g', e', q', s3, s4, s5, s6⟩
end Clause
