section Clause
variable {sp : Nat → Nat} {ph : Bool} {d : Nat} {m : y_m} {f : Nat → Int} {n p b : Nat} {e q lo hi : Int} {g : Nat → Nat}
theorem u_or_lt {t v : Nat} (ht : t < 4096) (hv : v < 12) : t ||| 1 <<< v < 4096 := Nat.or_lt_two_pow (n := 12) ht (by rw [Nat.one_shiftLeft]; exact Nat.pow_lt_pow_right (by decide) hv)
theorem s_37 {k : Nat} (hk : k < 5) (h : u_TP m f n p e q) (hG : u_BF m b g) (hb : b = 29 ∨ b = 30) : ∃ p' g' e' q' m', y_V sp ph (d + 5) 37 [y_bo 0 0 b, y_bo 6 0 1, y_bi (k : Int)] m = y_rV m' ∧ q_F (u_tb b) m m' ∧ u_TP m' f n p' e' q' ∧ u_BF m' b g' ∧ u_vx e q (u_vals f n k p g) p' g' e' q' := by
  have hg := hG.1
  have z32 : ∀ v : Int, -1000000 ≤ v → v ≤ 1000000 → z_w v = v := fun v h1 h2 => z_w_id (by omega) (by omega)
  rw [y_C_37]
  rcases (show k = 0 ∨ k = 1 ∨ k = 2 ∨ k = 3 ∨ k = 4 by omega) with rfl | rfl | rfl | rfl | rfl
  · obtain ⟨v1, v2, m1, m2, p', g', e', q', a1, a2, a3, a4, a5, a6⟩ := l_37two (sp := sp) (ph := ph) (d := d) (i := 0) (j := 1) (hi := 6) h hG hb (Or.inl ⟨rfl, rfl, rfl⟩)
    refine ⟨p', g', e', q', _, ?_, a3, a4, a5, a6⟩
    rw [y_E_37_0_0 _ _ _ _ _ (by decide), y_E_37_32, a1, e_bI, a2, e_bI, y_E_37_132]
  · obtain ⟨v1, v2, m1, m2, p', g', e', q', a1, a2, a3, a4, a5, a6⟩ := l_37two (sp := sp) (ph := ph) (d := d) (i := 2) (j := 3) (hi := 99) h hG hb (Or.inr ⟨rfl, rfl, rfl⟩)
    refine ⟨p', g', e', q', _, ?_, a3, a4, a5, a6⟩
    rw [y_E_37_0_1 _ _ _ _ _ (by decide), y_E_37_57, a1, e_bI, a2, e_bI, y_E_37_132]
  · have hs : ∀ v : Int, 0 ≤ v → v ≤ (g 0 : Int) + (g 1 : Int) - 1 → z_ior (y_mI m b 4) (z_ishl 1 v) = ((g 4 ||| 1 <<< v.toNat : Nat) : Int) := fun v h1 h2 => by
      obtain ⟨w, rfl⟩ : ∃ w : Nat, v = w := ⟨v.toNat, by omega⟩
      unfold u_gr at hg
      have p12 : 1 <<< w < 2 ^ 12 := by rw [Nat.one_shiftLeft]; exact Nat.pow_lt_pow_right (by decide) (by omega)
      rw [hG.2 4 (by decide), Int.toNat_natCast, show (1 : Int) = ((1 : Nat) : Int) from rfl, n_ishl (by omega) (by omega), n_ior (by omega) (by omega)]
    obtain ⟨v1, m1, p', g', e', q', a1, a3, a4, a5, a6⟩ := l_37one (sp := sp) (ph := ph) (d := d) (i := 4) (lo := 0) (hi := (g 0 : Int) + (g 1 : Int) - 1) (w := fun v => g 4 ||| 1 <<< v.toNat) (z := fun v => z_ior (y_mI m b 4) (z_ishl 1 v)) h hG hb (by omega) (by unfold u_gr at hg; omega) (by unfold u_gr at hg; omega) hs (fun v h1 h2 => by
      have hg2 := hg
      unfold u_gr at hg2
      have := u_or_lt (t := g 4) (v := v.toNat) (by omega) (by omega)
      unfold u_gr u_up at *
      simp; omega)
    refine ⟨p', g', e', q', _, ?_, a3, a4, a5, a6⟩
    have s38 := s_38 (sp := sp) (ph := ph) (d := d + 3) (m := m) (a := b)
    rw [hG.2 0 (by decide), hG.2 1 (by decide)] at s38
    rw [y_E_37_0_2 _ _ _ _ _ (by decide), y_E_37_82, s38, e_bI, a1, e_bI, y_E_37_132]
  · obtain ⟨v1, m1, p', g', e', q', a1, a3, a4, a5, a6⟩ := l_37one (sp := sp) (ph := ph) (d := d) (i := 5) (lo := 0) (hi := 2) (w := fun v => v.toNat) (z := fun v => v) h hG hb (by omega) (by omega) (by omega) (fun v h1 h2 => by omega) (fun v h1 h2 => by unfold u_gr u_up at *; simp; omega)
    refine ⟨p', g', e', q', _, ?_, a3, a4, a5, a6⟩
    rw [y_E_37_0_3 _ _ _ _ _ (by decide), y_E_37_107, a1, e_bI, y_E_37_132]
  · obtain ⟨v1, m1, p', g', e', q', a1, a3, a4, a5, a6⟩ := l_37one (sp := sp) (ph := ph) (d := d) (i := 6) (lo := 1) (hi := 9999) (w := fun v => v.toNat) (z := fun v => v) h hG hb (by omega) (by omega) (by omega) (fun v h1 h2 => by omega) (fun v h1 h2 => by unfold u_gr u_up at *; simp; omega)
    refine ⟨p', g', e', q', _, ?_, a3, a4, a5, a6⟩
    rw [y_E_37_0_d _ _ _ _ _ (by decide), y_E_37_120, a1, e_bI, y_E_37_132]
/-- a clause -/
def u_cl (f : Nat → Int) (n p cnt : Nat) (g : Nat → Nat) : (Int × Int) ⊕ (Nat × (Nat → Nat)) :=
  if u_wk f (u_sc u_bl f n p) (u_wp f n p) = 5 then .inl (1, (u_sc u_bl f n p : Nat)) else
  if 40 ≤ cnt then .inl (3, (u_sc u_bl f n p : Nat)) else
  if u_wk f (u_sc u_bl f n p) (u_wp f n p) = 0 ∧ 0 < cnt then .inl (4, (u_sc u_bl f n p : Nat)) else
  match u_vals f n (u_wk f (u_sc u_bl f n p) (u_wp f n p)) (u_wp f n p) g with
  | .inl x => .inl x
  | .inr x => if u_c f n (u_sc u_bl f n x.1) = 59 then .inr (u_sc u_bl f n x.1 + 1, x.2) else .inl (1, (u_sc u_bl f n x.1 : Nat))
theorem u_wk_5 {p1 p2 : Nat} : u_wk f p1 p2 ≤ 5 := by
  unfold u_wk
  repeat' split
  all_goals omega
theorem u_wk_n {p1 : Nat} : u_wk f p1 p1 = 5 := by
  have h : ∀ k, k < 5 → u_is f p1 p1 k = false := fun k hk => by
    have : ∀ k, k < 5 → ¬ (0 = (u_wd k).length) := by decide
    unfold u_is
    rw [Nat.sub_self, decide_eq_false (this k hk)]; rfl
  unfold u_wk
  rw [h 0 (by omega), h 1 (by omega), h 2 (by omega), h 3 (by omega), h 4 (by omega)]; rfl
theorem s_35 {cnt : Nat} (hcnt : cnt ≤ 40) (h : u_TP m f n p 0 q) (hG : u_BF m b g) (hb : b = 29 ∨ b = 30) : ∃ p' g' e' q' m', y_V sp ph (d + 6) 35 [y_bo 0 0 b, y_bo 6 0 1, y_bi (cnt : Int)] m = y_rV m' ∧ q_F (u_tb b) m m' ∧ u_TP m' f n p' e' q' ∧ u_BF m' b g' ∧ u_vx 0 q (u_cl f n p cnt g) p' g' e' q' := by
  obtain ⟨m1, a1, a2, a3, a4⟩ := s_29 (sp := sp) (ph := ph) (d := d + 1) h
  have hp1 := (u_sc_b (P := u_bl) (f := f) h.2.1)
  have hp2 := (u_sc_b (P := u_le) (f := f) hp1.2)
  have hw2 : u_sc u_bl f n p ≤ u_wp f n p := hp2.1
  have s36 := s_36 (sp := sp) (ph := ph) (d := d + 2) a3 a4 hw2
  have hG1 := u_BF_F (m' := m1) hG a2 (fun a k r => by unfold u_tf at r; omega)
  have F1 : q_F (u_tb b) m m1 := q_F_mono a2 (fun a k r => Or.inl r)
  have wk5 := u_wk_5 (f := f) (p1 := u_sc u_bl f n p) (p2 := u_wp f n p)
  unfold u_cl
  rw [y_C_35, y_E_35_0, a1, e_bV, s36, e_bI]
  by_cases c5 : u_wk f (u_sc u_bl f n p) (u_wp f n p) = 5
  · obtain ⟨m2, b1, b2, b3, b4⟩ := s_21 (sp := sp) (ph := ph) (d := d + 3) (k := 1) a3 (by omega) (by omega) a4
    rw [if_pos c5, if_pos c5, if_neg (by decide), b1, e_bV, y_E_35_62]
    refine ⟨_, g, _, _, m2, rfl, q_F_trans F1 (q_F_mono b2 (fun a k r => Or.inl r)), b3, u_BF_F hG1 b2 (fun a k r => by unfold u_tf at r; omega), fun r => absurd rfl r, fun _ => ?_⟩
    unfold u_fl
    by_cases w0 : u_wp f n p = u_sc u_bl f n p
    · simp only [if_pos w0]
      exact ⟨rfl, rfl, by decide⟩
    · simp only [if_neg w0]
      exact ⟨rfl, rfl, by decide⟩
  · have w0 : ¬ u_wp f n p = u_sc u_bl f n p := fun r => c5 (by rw [r]; exact u_wk_n)
    rw [if_neg w0, if_neg w0] at a3
    rw [if_neg c5, if_neg c5, if_pos (by rw [z_w_id (by omega) (by omega)]; omega), y_E_35_22]
    by_cases c40 : 40 ≤ cnt
    · obtain ⟨m2, b1, b2, b3, b4⟩ := s_21 (sp := sp) (ph := ph) (d := d + 3) (k := 3) a3 (by omega) (by omega) a4
      rw [if_pos c40, if_neg (by rw [z_w_id (by omega) (by omega)]; omega), b1, e_bV, y_E_35_62]
      exact ⟨_, g, _, _, m2, rfl, q_F_trans F1 (q_F_mono b2 (fun a k r => Or.inl r)), b3, u_BF_F hG1 b2 (fun a k r => by unfold u_tf at r; omega), fun r => absurd rfl r, fun _ => ⟨rfl, rfl, by show ¬ (3 : Int) = 0; decide⟩⟩
    · rw [if_neg c40, if_pos (by rw [z_w_id (by omega) (by omega)]; omega), y_E_35_36]
      by_cases c4 : u_wk f (u_sc u_bl f n p) (u_wp f n p) = 0 ∧ 0 < cnt
      · obtain ⟨m2, b1, b2, b3, b4⟩ := s_21 (sp := sp) (ph := ph) (d := d + 3) (k := 4) a3 (by omega) (by omega) a4
        rw [if_pos c4, if_neg (by rw [c4.1]; decide), if_neg (by rw [z_w_id (by omega) (by omega)]; omega), b1, e_bV, y_E_35_62]
        exact ⟨_, g, _, _, m2, rfl, q_F_trans F1 (q_F_mono b2 (fun a k r => Or.inl r)), b3, u_BF_F hG1 b2 (fun a k r => by unfold u_tf at r; omega), fun r => absurd rfl r, fun _ => ⟨rfl, rfl, by show ¬ (4 : Int) = 0; decide⟩⟩
      · have st : y_R sp ph (d + 5) 35 36 [some (y_bo 0 0 b), some (y_bo 6 0 1), some (y_bi (cnt : Int)), some (y_bi (u_wk f (u_sc u_bl f n p) (u_wp f n p) : Int))] [] m1 = y_R sp ph (d + 5) 35 52 [some (y_bo 0 0 b), some (y_bo 6 0 1), none, some (y_bi (u_wk f (u_sc u_bl f n p) (u_wp f n p) : Int))] [] m1 := by
          rw [y_E_35_36]
          by_cases k0 : u_wk f (u_sc u_bl f n p) (u_wp f n p) = 0
          · have : cnt = 0 := by omega
            rw [k0, this]
            rw [if_neg (by decide), if_pos (by decide)]
          · rw [if_pos (by rw [z_w_id (by omega) (by omega)]; omega)]
        rw [if_neg c4, ← y_E_35_36, st, y_E_35_52]
        obtain ⟨p2, g2, e2, q2, m2, b1, b2, b3, b4, b5⟩ := s_37 (sp := sp) (ph := ph) (d := d) (k := u_wk f (u_sc u_bl f n p) (u_wp f n p)) (by omega) a3 hG1 hb
        obtain ⟨m3, c1, c2, c3⟩ := s_31 (sp := sp) (ph := ph) (d := d + 1) b3
        rw [b1, e_bV, c1, e_bV, y_E_35_62]
        refine ⟨_, g2, _, _, m3, rfl, q_F_trans F1 (q_F_trans b2 (q_F_mono c2 (fun a k r => Or.inl r))), c3, u_BF_F b4 c2 (fun a k r => by unfold u_tf at r; omega), fun r => absurd rfl r, fun _ => ?_⟩
        have x := b5.2 rfl
        cases hv : u_vals f n (u_wk f (u_sc u_bl f n p) (u_wp f n p)) (u_wp f n p) g with
        | inl r =>
          rw [hv] at x
          dsimp only at x ⊢
          unfold u_fl
          have e2n : ¬ e2 = 0 := by rw [x.1]; exact x.2.2
          rw [if_neg e2n]
          refine ⟨?_, ?_, x.2.2⟩
          · split
            · exact x.1
            · exact x.1
          · split
            · exact x.2.1
            · exact x.2.1
        | inr r =>
          rw [hv] at x
          dsimp only at x ⊢
          obtain ⟨x1, x2, x3, x4⟩ := x
          unfold u_fl
          rw [x1]
          by_cases cs : u_c f n (u_sc u_bl f n r.1) = 59
          · simp only [if_pos cs]
            exact ⟨trivial, x2, x3, x4⟩
          · simp only [if_neg cs, if_pos x3]
            exact ⟨trivial, trivial, by decide⟩
/-- a boot's text -/
def u_bt (f : Nat → Int) (n : Nat) : Nat → Nat → Nat → (Nat → Nat) → (Int × Int) ⊕ (Nat → Nat)
  | 0, _, _, g => .inr g
  | k + 1, p, cnt, g => if n ≤ u_sc u_bl f n p then .inr g else match u_cl f n (u_sc u_bl f n p) cnt g with
    | .inl x => .inl x
    | .inr x => u_bt f n k x.1 (cnt + 1) x.2
def u_bx (r : (Int × Int) ⊕ (Nat → Nat)) (g' : Nat → Nat) (e' q' q : Int) : Prop := match r with
  | .inl x => e' = x.1 ∧ q' = x.2 ∧ x.1 ≠ 0
  | .inr x => g' = x ∧ e' = 0 ∧ q' = q
theorem l_34 (hb : b = 29 ∨ b = 30) : ∀ (k cnt p : Nat) (g : Nat → Nat) (m : y_m), cnt + k = 41 → u_TP m f n p 0 q → u_BF m b g → ∃ p' g' e' q' m', y_R sp ph (d + 6) 34 6 [some (y_bo 0 0 b), some (y_bo 6 0 1), some (y_bi (cnt : Int))] [] m = y_rV m' ∧ q_F (u_tb b) m m' ∧ u_TP m' f n p' e' q' ∧ u_BF m' b g' ∧ u_bx (u_bt f n k p cnt g) g' e' q' q := by
  intro k
  induction k with
  | zero =>
    intro cnt p g m hc h hG
    refine ⟨p, g, 0, q, m, ?_, q_F_refl, h, hG, rfl, rfl, rfl⟩
    rw [y_E_34_6, if_pos (by rw [z_w_id (by omega) (by omega)]; omega), y_E_34_39]
  | succ k ih =>
    intro cnt p g m hc h hG
    have s17 := s_17 (sp := sp) (ph := ph) (d := d + 5) h
    obtain ⟨m1, a1, a2, a3, a4⟩ := s_23 (sp := sp) (ph := ph) (d := d + 2) h
    have hG1 := u_BF_F (m' := m1) hG a2 (fun a k r => by unfold u_tf at r; omega)
    have F1 : q_F (u_tb b) m m1 := q_F_mono a2 (fun a k r => Or.inl r)
    rw [y_E_34_6, if_neg (by rw [z_w_id (by omega) (by omega)]; omega), s17, e_bI, if_neg (by decide), a1, e_bI, u_bt]
    by_cases c : n ≤ u_sc u_bl f n p
    · rw [decide_eq_true c, if_neg (by decide), if_pos c, y_E_34_26]
      exact ⟨_, g, 0, q, m1, rfl, F1, a3, hG1, rfl, rfl, rfl⟩
    · rw [decide_eq_false c, if_pos (by decide), if_neg c, y_E_34_27]
      obtain ⟨p2, g2, e2, q2, m2, b1, b2, b3, b4, b5⟩ := s_35 (sp := sp) (ph := ph) (d := d) (cnt := cnt) (by omega) a3 hG1 hb
      rw [b1, e_bV, show (cnt : Int) + 1 = ((cnt + 1 : Nat) : Int) by omega]
      have x := b5.2 rfl
      cases hv : u_cl f n (u_sc u_bl f n p) cnt g with
      | inl r =>
        rw [hv] at x
        dsimp only at x ⊢
        have s17b := s_17 (sp := sp) (ph := ph) (d := d + 5) b3
        have e2n : e2 ≠ 0 := by rw [x.1]; exact x.2.2
        refine ⟨p2, g2, e2, q2, m2, ?_, q_F_trans F1 b2, b3, b4, x⟩
        rw [y_E_34_6]
        by_cases c40 : cnt + 1 = 41
        · rw [if_pos (by rw [z_w_id (by omega) (by omega)]; omega), y_E_34_39]
        · rw [if_neg (by rw [z_w_id (by omega) (by omega)]; omega), s17b, e_bI, decide_eq_true e2n, if_pos (by decide), y_E_34_26]
      | inr r =>
        rw [hv] at x
        dsimp only at x ⊢
        obtain ⟨x1, x2, x3, x4⟩ := x
        rw [x1, x3, x4] at b3
        rw [x2] at b4
        obtain ⟨p3, g3, e3, q3, m3, c1, c2, c3, c4, c5⟩ := ih (cnt + 1) r.1 r.2 m2 (by omega) b3 b4
        exact ⟨p3, g3, e3, q3, m3, c1, q_F_trans F1 (q_F_trans b2 c2), c3, c4, c5⟩
def u_g0 (k : Nat) : Nat := match k with
  | 0 => 6
  | 1 => 6
  | 2 => 30
  | 3 => 20
  | 4 => 0
  | 5 => 0
  | _ => 9999
theorem s_34 (h : u_TP m f n p 0 q) (hb : b = 29 ∨ b = 30) : ∃ p' g' e' q' m', y_V sp ph (d + 7) 34 [y_bo 0 0 b, y_bo 6 0 1] m = y_rV m' ∧ q_F (u_tb b) m m' ∧ u_TP m' f n p' e' q' ∧ u_BF m' b g' ∧ u_bx (u_bt f n 41 p 0 u_g0) g' e' q' q := by
  have F0 : q_F (fun a _ => a = b) m (y_sI (y_sI (y_sI (y_sI (y_sI (y_sI (y_sI m b 0 6) b 1 6) b 2 30) b 3 20) b 4 0) b 5 0) b 6 9999) := q_F_trans (q_F_sI rfl) (q_F_trans (q_F_sI rfl) (q_F_trans (q_F_sI rfl) (q_F_trans (q_F_sI rfl) (q_F_trans (q_F_sI rfl) (q_F_trans (q_F_sI rfl) (q_F_sI rfl))))))
  have hG : u_BF (y_sI (y_sI (y_sI (y_sI (y_sI (y_sI (y_sI m b 0 6) b 1 6) b 2 30) b 3 20) b 4 0) b 5 0) b 6 9999) b u_g0 := by
    refine ⟨by unfold u_gr; decide, fun k hk => ?_⟩
    rcases (show k = 0 ∨ k = 1 ∨ k = 2 ∨ k = 3 ∨ k = 4 ∨ k = 5 ∨ k = 6 by omega) with rfl | rfl | rfl | rfl | rfl | rfl | rfl
    · rw [e_II' (by omega), e_II' (by omega), e_II' (by omega), e_II' (by omega), e_II' (by omega), e_II' (by omega), e_II]; rfl
    · rw [e_II' (by omega), e_II' (by omega), e_II' (by omega), e_II' (by omega), e_II' (by omega), e_II]; rfl
    · rw [e_II' (by omega), e_II' (by omega), e_II' (by omega), e_II' (by omega), e_II]; rfl
    · rw [e_II' (by omega), e_II' (by omega), e_II' (by omega), e_II]; rfl
    · rw [e_II' (by omega), e_II' (by omega), e_II]; rfl
    · rw [e_II' (by omega), e_II]; rfl
    · rw [e_II]; rfl
  obtain ⟨p3, g3, e3, q3, m3, c1, c2, c3, c4, c5⟩ := l_34 (sp := sp) (ph := ph) (d := d) hb 41 0 p u_g0 _ (by omega) (u_TP_F h F0 (fun a k r => by omega)) hG
  refine ⟨p3, g3, e3, q3, m3, ?_, q_F_trans (q_F_mono F0 (fun a k r => Or.inr r)) c2, c3, c4, c5⟩
  rw [y_C_34, y_E_34_0, y_C_33, y_E_33_0, e_bV]
  exact c1
end Clause
