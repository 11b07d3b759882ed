/-! ===== images, to the reference ===== -/
def u_gp (i : Nat) : Nat × Nat := if i < 3 then (49, 13 + i) else if i < 15 then (54, i - 3) else if i < 27 then (56 + (i - 15) / 2, (i - 15) % 2) else (63 + (i - 27) / 13, (i - 27) % 13)
theorem u_gp_b {i : Nat} (h : i < 79) : (u_gp i).1 ≤ 66 ∧ ((u_gp i).1 ≠ 49 ∨ (u_gp i).2 ≤ 15) := by
  unfold u_gp
  repeat' split
  all_goals
    dsimp only
    omega
theorem u_gp_ne {i s : Nat} (h : i < 79) (h2 : s < 79) (hne : i ≠ s) : ¬ ((u_gp i).1 = (u_gp s).1 ∧ (u_gp i).2 = (u_gp s).2) := by
  unfold u_gp
  repeat' split
  all_goals
    dsimp only
    omega
theorem u_gp_a {j : Nat} (h : j < 12) : u_gp (3 + j) = (54, j) := by
  unfold u_gp
  rw [if_neg (by omega), if_pos (by omega), show 3 + j - 3 = j by omega]
theorem u_gp_2 {i j : Nat} (h : i < 6) (hj : j < 2) : u_gp (15 + 2 * i + j) = (56 + i, j) := by
  unfold u_gp
  rw [if_neg (by omega), if_neg (by omega), if_pos (by omega), show (15 + 2 * i + j - 15) / 2 = i by omega, show (15 + 2 * i + j - 15) % 2 = j by omega]
theorem u_gp_3 {i j : Nat} (hj : j < 13) : u_gp (27 + 13 * i + j) = (63 + i, j) := by
  unfold u_gp
  rw [if_neg (by omega), if_neg (by omega), if_neg (by omega), show (27 + 13 * i + j - 27) / 13 = i by omega, show (27 + 13 * i + j - 27) % 13 = j by omega]
def u_iv (mode : Nat) (a1 : Nat) (m0 m : y_m) (s : Nat) : Prop := y_mI m 49 17 = s ∧ (m.1 = m0.1 ∧ m.2.1 = m0.2.1 ∧ y_mc m = y_mc m0 ∧ y_mx m = y_mx m0 ∧ ∀ a k, y_mJ m a k = y_mJ m0 a k) ∧ (mode = 0 → (∀ i, i < s → y_mI m a1 i = y_mI m0 (u_gp i).1 (u_gp i).2) ∧ ∀ a k, a ≠ a1 → ¬ (a = 49 ∧ k = 17) → y_mI m a k = y_mI m0 a k) ∧ (mode = 1 → (∀ i, i < s → y_mI m (u_gp i).1 (u_gp i).2 = y_mI m0 a1 i) ∧ ∀ a k, ¬ (a = 49 ∧ k = 17) → (∀ i, i < s → ¬ ((u_gp i).1 = a ∧ (u_gp i).2 = k)) → y_mI m a k = y_mI m0 a k)
section Image
variable {sp : Nat → Nat} {ph : Bool} {d : Nat} {m m0 m' : y_m} {mode a1 s : Nat}
theorem t_293 (hm : mode = 0 ∨ mode = 1) (hs : s < 79) (ha : 68 ≤ a1) (h : u_iv mode a1 m0 m s) : ∃ v m', y_V sp ph (d + 1) 293 [y_bo 11 0 49, y_bo 100 79 a1, y_bi (y_mI m (u_gp s).1 (u_gp s).2), y_bi (mode : Int)] m = y_rI v m' ∧ u_iv mode a1 m0 (y_sI m' (u_gp s).1 (u_gp s).2 v) (s + 1) := by
  obtain ⟨h1, h2, h3, h4⟩ := h
  have gb := u_gp_b hs
  have e17 : ∀ M : y_m, y_mI M 49 17 = s → y_mI (y_sI M 49 17 (y_mI M 49 17 + 1)) 49 17 - 1 = s := fun M hM => by rw [e_II, hM]; omega
  rcases hm with rfl | rfl
  · obtain ⟨g1, g2⟩ := h3 rfl
    have k17 : y_mI (y_sI m a1 s (y_mI m (u_gp s).1 (u_gp s).2)) 49 17 = s := by rw [e_II' (by omega)]; exact h1
    have kv : y_mI m (u_gp s).1 (u_gp s).2 = y_mI m0 (u_gp s).1 (u_gp s).2 := g2 _ _ (by omega) (by omega)
    refine ⟨y_mI m (u_gp s).1 (u_gp s).2, y_sI (y_sI m a1 s (y_mI m (u_gp s).1 (u_gp s).2)) 49 17 ((s : Int) + 1), ?_, ?_, h2, fun _ => ⟨fun i hi => ?_, fun a k q1 q2 => ?_⟩, fun r => by cases r⟩
    · rw [y_C_293, y_E_293_0, if_neg (by decide), h1, e_g ⟨by omega, by omega⟩, Int.toNat_natCast, y_E_293_11, e17 _ k17, e_g ⟨by omega, by omega⟩, k17, Int.toNat_natCast, e_II' (by omega), e_II]
    · rw [e_II' (by omega), e_II]; omega
    · rw [e_II' (by omega), e_II' (by omega)]
      by_cases q : i = s
      · subst q; rw [e_II]; exact kv
      · rw [e_II' (by omega)]; exact g1 i (by omega)
    · by_cases q : a = (u_gp s).1 ∧ k = (u_gp s).2
      · rw [q.1, q.2, e_II]; exact kv
      · rw [e_II' q, e_II' q2, e_II' (by omega)]; exact g2 a k q1 q2
  · obtain ⟨g1, g2⟩ := h4 rfl
    have kv : y_mI m a1 s = y_mI m0 a1 s := g2 a1 s (by omega) (fun i hi r => by have := u_gp_b (i := i) (by omega); omega)
    refine ⟨y_mI m a1 s, y_sI m 49 17 ((s : Int) + 1), ?_, ?_, h2, (fun r => by cases r), fun _ => ⟨fun i hi => ?_, fun a k q1 q2 => ?_⟩⟩
    · rw [y_C_293, y_E_293_0, if_pos (by decide), y_E_293_11, e17 _ h1, e_g ⟨by omega, by omega⟩, h1, Int.toNat_natCast, e_II' (by omega)]
    · rw [e_II' (by omega), e_II]; omega
    · by_cases q : i = s
      · subst q; rw [e_II]; exact kv
      · have gi := u_gp_b (i := i) (by omega)
        rw [e_II' (u_gp_ne (by omega) hs q), e_II' (by omega)]; exact g1 i (by omega)
    · have := q2 s (by omega)
      rw [e_II' (by omega), e_II' q1]; exact g2 a k q1 (fun i hi => q2 i (by omega))
theorem l_294a (hm : mode = 0 ∨ mode = 1) (ha : 68 ≤ a1) : ∀ (k j : Nat) (m : y_m), j + k = 12 → u_iv mode a1 m0 m (3 + j) → ∃ m', y_R sp ph (d + 1) 294 49 [some (y_bo 11 0 49), some (y_bo 100 79 a1), some (y_bi (mode : Int)), some (y_bi (j : Int)), none] [] m = y_R sp ph (d + 1) 294 79 [some (y_bo 11 0 49), some (y_bo 100 79 a1), some (y_bi (mode : Int)), none, none] [] m' ∧ u_iv mode a1 m0 m' 15 := by
  intro k
  induction k with
  | zero =>
    intro j m hj h
    refine ⟨m, ?_, by rw [show 3 + j = 15 by omega] at h; exact h⟩
    rw [y_E_294_49, if_pos (by rw [z_w_id (by omega) (by omega)]; omega)]
  | succ k ih =>
    intro j m hj h
    obtain ⟨v, m1, a, b⟩ := t_293 (sp := sp) (ph := ph) (d := d) hm (by omega) ha h
    rw [u_gp_a (by omega)] at a b
    obtain ⟨m2, c1, c2⟩ := ih (j + 1) _ (by omega) b
    refine ⟨m2, ?_, c2⟩
    rw [y_E_294_49, if_neg (by rw [z_w_id (by omega) (by omega)]; omega), e_g ⟨by omega, by omega⟩, Int.toNat_natCast, a, e_bI, e_g ⟨by omega, by omega⟩, show (j : Int) + 1 = ((j + 1 : Nat) : Int) by omega]
    exact c1
theorem l_294b (hm : mode = 0 ∨ mode = 1) (ha : 68 ≤ a1) {i : Nat} (hi : i < 6) : ∀ (k j : Nat) (m : y_m), j + k = 2 → u_iv mode a1 m0 m (15 + 2 * i + j) → ∃ m', y_R sp ph (d + 1) 294 90 [some (y_bo 11 0 49), some (y_bo 100 79 a1), some (y_bi (mode : Int)), some (y_bi (i : Int)), some (y_bi (j : Int))] [] m = y_R sp ph (d + 1) 294 126 [some (y_bo 11 0 49), some (y_bo 100 79 a1), some (y_bi (mode : Int)), some (y_bi (i : Int)), none] [] m' ∧ u_iv mode a1 m0 m' (15 + 2 * (i + 1)) := by
  intro k
  induction k with
  | zero =>
    intro j m hj h
    refine ⟨m, ?_, by rw [show 15 + 2 * i + j = 15 + 2 * (i + 1) by omega] at h; exact h⟩
    rw [y_E_294_90, if_pos (by rw [z_w_id (by omega) (by omega)]; omega)]
  | succ k ih =>
    intro j m hj h
    obtain ⟨v, m1, a, b⟩ := t_293 (sp := sp) (ph := ph) (d := d) hm (by omega) ha h
    rw [u_gp_2 hi (by omega)] at a b
    obtain ⟨m2, c1, c2⟩ := ih (j + 1) _ (by omega) b
    refine ⟨m2, ?_, c2⟩
    have er : (56 : Nat) + 1 * ((i : Nat) : Int).toNat = 56 + i := by omega
    rw [y_E_294_90, if_neg (by rw [z_w_id (by omega) (by omega)]; omega), e_g ⟨by omega, by omega⟩, e_g ⟨by omega, by omega⟩, e_g ⟨by omega, by omega⟩, er, Int.toNat_natCast, a, e_bI, e_g ⟨by omega, by omega⟩, show (j : Int) + 1 = ((j + 1 : Nat) : Int) by omega]
    exact c1
theorem l_294c (hm : mode = 0 ∨ mode = 1) (ha : 68 ≤ a1) : ∀ (k i : Nat) (m : y_m), i + k = 6 → u_iv mode a1 m0 m (15 + 2 * i) → ∃ m', y_R sp ph (d + 1) 294 81 [some (y_bo 11 0 49), some (y_bo 100 79 a1), some (y_bi (mode : Int)), some (y_bi (i : Int)), none] [] m = y_R sp ph (d + 1) 294 132 [some (y_bo 11 0 49), some (y_bo 100 79 a1), some (y_bi (mode : Int)), none, none] [] m' ∧ u_iv mode a1 m0 m' 27 := by
  intro k
  induction k with
  | zero =>
    intro i m hi h
    refine ⟨m, ?_, by rw [show 15 + 2 * i = 27 by omega] at h; exact h⟩
    rw [y_E_294_81, if_pos (by rw [z_w_id (by omega) (by omega)]; omega)]
  | succ k ih =>
    intro i m hi h
    obtain ⟨m1, a, b⟩ := l_294b (sp := sp) (ph := ph) (d := d) hm ha (i := i) (by omega) 2 0 m (by omega) h
    obtain ⟨m2, c1, c2⟩ := ih (i + 1) m1 (by omega) b
    refine ⟨m2, ?_, c2⟩
    have a' : y_R sp ph (d + 1) 294 90 [some (y_bo 11 0 49), some (y_bo 100 79 a1), some (y_bi (mode : Int)), some (y_bi (i : Int)), some (y_bi 0)] [] m = _ := a
    rw [y_E_294_81, if_neg (by rw [z_w_id (by omega) (by omega)]; omega), a', y_E_294_126, show (i : Int) + 1 = ((i + 1 : Nat) : Int) by omega]
    exact c1
theorem l_294d (hm : mode = 0 ∨ mode = 1) (ha : 68 ≤ a1) {i : Nat} (hi : i < 4) : ∀ (k j : Nat) (m : y_m), j + k = 13 → u_iv mode a1 m0 m (27 + 13 * i + j) → ∃ m', y_R sp ph (d + 1) 294 142 [some (y_bo 11 0 49), some (y_bo 100 79 a1), some (y_bi (mode : Int)), some (y_bi (i : Int)), some (y_bi (j : Int))] [] m = y_R sp ph (d + 1) 294 179 [some (y_bo 11 0 49), some (y_bo 100 79 a1), some (y_bi (mode : Int)), some (y_bi (i : Int)), none] [] m' ∧ u_iv mode a1 m0 m' (27 + 13 * (i + 1)) := by
  intro k
  induction k with
  | zero =>
    intro j m hj h
    refine ⟨m, ?_, by rw [show 27 + 13 * i + j = 27 + 13 * (i + 1) by omega] at h; exact h⟩
    rw [y_E_294_142, if_pos (by rw [z_w_id (by omega) (by omega)]; omega)]
  | succ k ih =>
    intro j m hj h
    obtain ⟨v, m1, a, b⟩ := t_293 (sp := sp) (ph := ph) (d := d) hm (by omega) ha h
    rw [u_gp_3 (by omega)] at a b
    obtain ⟨m2, c1, c2⟩ := ih (j + 1) _ (by omega) b
    refine ⟨m2, ?_, c2⟩
    have er : (63 : Nat) + 1 * ((i : Nat) : Int).toNat = 63 + i := by omega
    rw [y_E_294_142, if_neg (by rw [z_w_id (by omega) (by omega)]; omega), e_g ⟨by omega, by omega⟩, e_g ⟨by omega, by omega⟩, e_g ⟨by omega, by omega⟩, er, Int.toNat_natCast, a, e_bI, e_g ⟨by omega, by omega⟩, show (j : Int) + 1 = ((j + 1 : Nat) : Int) by omega]
    exact c1
theorem l_294e (hm : mode = 0 ∨ mode = 1) (ha : 68 ≤ a1) : ∀ (k i : Nat) (m : y_m), i + k = 4 → u_iv mode a1 m0 m (27 + 13 * i) → ∃ m', y_R sp ph (d + 1) 294 134 [some (y_bo 11 0 49), some (y_bo 100 79 a1), some (y_bi (mode : Int)), some (y_bi (i : Int)), none] [] m = y_rV m' ∧ u_iv mode a1 m0 m' 79 := by
  intro k
  induction k with
  | zero =>
    intro i m hi h
    refine ⟨m, ?_, by rw [show 27 + 13 * i = 79 by omega] at h; exact h⟩
    rw [y_E_294_134, if_pos (by rw [z_w_id (by omega) (by omega)]; omega), y_E_294_185]
  | succ k ih =>
    intro i m hi h
    obtain ⟨m1, a, b⟩ := l_294d (sp := sp) (ph := ph) (d := d) hm ha (i := i) (by omega) 13 0 m (by omega) h
    obtain ⟨m2, c1, c2⟩ := ih (i + 1) m1 (by omega) b
    refine ⟨m2, ?_, c2⟩
    have a' : y_R sp ph (d + 1) 294 142 [some (y_bo 11 0 49), some (y_bo 100 79 a1), some (y_bi (mode : Int)), some (y_bi (i : Int)), some (y_bi 0)] [] m = _ := a
    rw [y_E_294_134, if_neg (by rw [z_w_id (by omega) (by omega)]; omega), a', y_E_294_179, show (i : Int) + 1 = ((i + 1 : Nat) : Int) by omega]
    exact c1
theorem t_294 (hm : mode = 0 ∨ mode = 1) (ha : 68 ≤ a1) : ∃ m', y_V sp ph (d + 2) 294 [y_bo 11 0 49, y_bo 100 79 a1, y_bi (mode : Int)] m = y_rV m' ∧ u_iv mode a1 m m' 79 := by
  have h0 : u_iv mode a1 m (y_sI m 49 17 0) 0 := ⟨e_II, ⟨rfl, rfl, rfl, rfl, fun _ _ => rfl⟩, fun _ => ⟨fun i hi => absurd hi (Nat.not_lt_zero i), fun a k _ q => e_II' q⟩, fun _ => ⟨fun i hi => absurd hi (Nat.not_lt_zero i), fun a k q _ => e_II' q⟩⟩
  obtain ⟨v1, m1, a1', b1⟩ := t_293 (sp := sp) (ph := ph) (d := d) hm (by omega) ha h0
  have c1 : y_V sp ph (d + 1) 293 [y_bo 11 0 49, y_bo 100 79 a1, y_bi (y_mI (y_sI m 49 17 0) 49 13), y_bi (mode : Int)] (y_sI m 49 17 0) = y_rI v1 m1 := a1'
  have b1' : u_iv mode a1 m (y_sI m1 49 13 v1) 1 := b1
  obtain ⟨v2, m2, a2, b2⟩ := t_293 (sp := sp) (ph := ph) (d := d) hm (by omega) ha b1'
  have c2 : y_V sp ph (d + 1) 293 [y_bo 11 0 49, y_bo 100 79 a1, y_bi (y_mI (y_sI m1 49 13 v1) 49 14), y_bi (mode : Int)] (y_sI m1 49 13 v1) = y_rI v2 m2 := a2
  have b2' : u_iv mode a1 m (y_sI m2 49 14 v2) 2 := b2
  obtain ⟨v3, m3, a3, b3⟩ := t_293 (sp := sp) (ph := ph) (d := d) hm (by omega) ha b2'
  have c3 : y_V sp ph (d + 1) 293 [y_bo 11 0 49, y_bo 100 79 a1, y_bi (y_mI (y_sI m2 49 14 v2) 49 15), y_bi (mode : Int)] (y_sI m2 49 14 v2) = y_rI v3 m3 := a3
  have b3' : u_iv mode a1 m (y_sI m3 49 15 v3) (3 + 0) := b3
  obtain ⟨m4, d1, d2⟩ := l_294a (sp := sp) (ph := ph) (d := d) hm ha 12 0 _ (by omega) b3'
  obtain ⟨m5, e1, e2⟩ := l_294c (sp := sp) (ph := ph) (d := d) hm ha 6 0 m4 (by omega) d2
  obtain ⟨m6, f1, f2⟩ := l_294e (sp := sp) (ph := ph) (d := d) hm ha 4 0 m5 (by omega) e2
  have d1' : y_R sp ph (d + 1) 294 49 [some (y_bo 11 0 49), some (y_bo 100 79 a1), some (y_bi (mode : Int)), some (y_bi 0), none] [] (y_sI m3 49 15 v3) = _ := d1
  have e1' : y_R sp ph (d + 1) 294 81 [some (y_bo 11 0 49), some (y_bo 100 79 a1), some (y_bi (mode : Int)), some (y_bi 0), none] [] m4 = _ := e1
  have f1' : y_R sp ph (d + 1) 294 134 [some (y_bo 11 0 49), some (y_bo 100 79 a1), some (y_bi (mode : Int)), some (y_bi 0), none] [] m5 = _ := f1
  refine ⟨m6, ?_, f2⟩
  rw [y_C_294, y_E_294_0, c1, e_bI, c2, e_bI, c3, e_bI, d1', y_E_294_79, e1', y_E_294_132, f1']
end Image
