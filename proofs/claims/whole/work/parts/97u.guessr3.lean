/-! ===== within, guess: the reference's answers ===== -/
def u_mn (P : List (Nat × Nat)) (i : Nat) : Nat := if (P.getD i (0, 0)).2 ≤ (P.getD i (0, 0)).1 then (P.getD i (0, 0)).2 else (P.getD i (0, 0)).1
def u_mx (P : List (Nat × Nat)) (i : Nat) : Nat := if (P.getD i (0, 0)).2 ≤ (P.getD i (0, 0)).1 then (P.getD i (0, 0)).1 else (P.getD i (0, 0)).2
def u_mp (P : List (Nat × Nat)) : Nat → Nat → Nat → Nat
  | 0, _, x => x
  | k + 1, j, x => u_mp P k (j + 1) (if u_mn P x ≤ u_mn P j then x else j)
theorem u_mp_ok {P : List (Nat × Nat)} : ∀ (k j x : Nat), j + k = P.length → x < j → (∀ i, i < j → u_mn P x ≤ u_mn P i) → u_mp P k j x < P.length ∧ ∀ i, i < P.length → u_mn P (u_mp P k j x) ≤ u_mn P i
  | 0, j, x, h1, h2, h3 => ⟨by rw [u_mp]; omega, fun i hi => h3 i (by omega)⟩
  | k + 1, j, x, h1, h2, h3 => by
    rw [u_mp]
    refine u_mp_ok k (j + 1) _ (by omega) (by split <;> omega) (fun i hi => ?_)
    by_cases c : u_mn P x ≤ u_mn P j
    · rw [if_pos c]
      by_cases q : i = j
      · rw [q]; exact c
      · exact h3 i (by omega)
    · rw [if_neg c]
      by_cases q : i = j
      · rw [q]; exact Nat.le_refl _
      · have := h3 i (by omega); omega
def u_m0 (P : List (Nat × Nat)) : Nat := u_mp P (P.length - 1) 1 0
def u_xrw (P : List (Nat × Nat)) : List (List Nat) := u_rl P (P.length - 1) (2 ^ u_m0 P) [u_mn P (u_m0 P), u_mx P (u_m0 P)]
def u_hG (a k : Nat) : Prop := a = 97 ∨ a = 98 ∨ (a = 49 ∧ k = 43) ∨ a = 102
def u_hI (a k : Nat) : Prop := a = 97 ∨ a = 98 ∨ (a = 49 ∧ (k = 43 ∨ k = 0 ∨ k = 13)) ∨ a = 102 ∨ a = 54
section Guess
variable {sp : Nat → Nat} {ph : Bool} {d : Nat} {m m' : y_m} {L R A B t lw X n b : Nat} {w : List Nat} {P : List (Nat × Nat)}
theorem t_279 {i : Nat} (h : u_R0 m L lw P) (hi : i < P.length) : y_V sp ph (d + 1) 279 [y_bo 11 0 49, y_bi (i : Int)] m = y_rI (u_mn P i : Int) m := by
  have hl := h.2.2.2.2.2.1
  have pi := h.2.2.2.2.1.2 i hi
  have mi := u_getD_fp (P := P) hi
  have b1 := h.2.2.2.2.2.2 _ mi.1
  have b2 := h.2.2.2.2.2.2 _ mi.2
  rw [y_C_279, y_E_279_0, e_g ⟨by omega, by omega⟩, e_g ⟨by omega, by omega⟩, Int.toNat_natCast, Nat.one_mul, pi.1, pi.2, z_w_id (by omega) (by omega), z_w_id (by omega) (by omega)]
  unfold u_mn
  by_cases c : (P.getD i (0, 0)).2 ≤ (P.getD i (0, 0)).1
  · rw [if_pos (by omega), if_pos c, y_E_279_30, e_g ⟨by omega, by omega⟩, Int.toNat_natCast, Nat.one_mul, pi.2, y_E_279_38]
  · rw [if_neg (by omega), if_neg c, e_g ⟨by omega, by omega⟩, y_E_279_38]
theorem u_mn_lt {i : Nat} (h : ∀ x ∈ u_fp P, x < 12) (hi : i < P.length) : u_mn P i < 12 ∧ u_mx P i < 12 := by
  have mi := u_getD_fp (P := P) hi
  have b1 := h _ mi.1
  have b2 := h _ mi.2
  unfold u_mn u_mx
  split
  · exact ⟨b2, b1⟩
  · exact ⟨b1, b2⟩
theorem l_278 (h : u_R0 m L lw P) : ∀ (k j x : Nat), j + k = P.length → x < j → y_R sp ph (d + 1) 278 18 [some (y_bo 11 0 49), some (y_bi (x : Int)), some (y_bi (j : Int))] [] m = y_R sp ph (d + 1) 278 47 [some (y_bo 11 0 49), some (y_bi (u_mp P k j x : Int)), none] [] m := by
  have hl := h.2.2.2.2.2.1
  have e14 : y_mI m 49 14 = (P.length : Int) := h.2.2.2.2.1.1
  intro k
  induction k with
  | zero =>
    intro j x hj hx
    rw [y_E_278_18, e14, if_pos (by rw [z_w_id (by omega) (by omega), z_w_id (by omega) (by omega)]; omega)]; rfl
  | succ k ih =>
    intro j x hj hx
    have b1 := (u_mn_lt (P := P) (i := j) h.2.2.2.2.2.2 (by omega)).1
    have b2 := (u_mn_lt (P := P) (i := x) h.2.2.2.2.2.2 (by omega)).1
    rw [y_E_278_18, e14, if_neg (by rw [z_w_id (by omega) (by omega), z_w_id (by omega) (by omega)]; omega), t_279 h (by omega), e_bI, t_279 h (by omega), e_bI, u_mp]
    by_cases c : u_mn P x ≤ u_mn P j
    · rw [if_pos (by rw [z_w_id (by omega) (by omega), z_w_id (by omega) (by omega)]; omega), if_pos c, y_E_278_41, show (j : Int) + 1 = ((j + 1 : Nat) : Int) by omega]
      exact ih (j + 1) x (by omega) (by omega)
    · rw [if_neg (by rw [z_w_id (by omega) (by omega), z_w_id (by omega) (by omega)]; omega), if_neg c, y_E_278_41, show (j : Int) + 1 = ((j + 1 : Nat) : Int) by omega]
      exact ih (j + 1) j (by omega) (by omega)
theorem t_278 (h : u_R0 m L lw P) : ∃ m', y_V sp ph (d + 20) 278 [y_bo 11 0 49] m = y_rV m' ∧ q_F u_hG m m' ∧ u_gs m' (2 * P.length) (if P.length < 2 then 0 else u_ct L lw (u_xrw P)) (if P.length < 2 then none else u_ft L lw (2 * P.length) none (u_xrw P)) := by
  have hl := h.2.2.2.2.2.1
  have F0 : q_F (fun a k => a = 49 ∧ k = 43) m (y_sI m 49 43 0) := q_F_sI ⟨rfl, rfl⟩
  have h' := u_R0_F h F0 (fun a k q => by omega)
  have G0 : u_gs (y_sI m 49 43 0) (2 * P.length) 0 none := ⟨e_II, by omega, ⟨fun _ => rfl, fun _ => rfl⟩, fun b hb => by cases hb⟩
  have FG : q_F u_hG m (y_sI m 49 43 0) := q_F_mono F0 (fun a k q => by unfold u_hG; omega)
  have e14 : y_mI (y_sI m 49 43 0) 49 14 = (P.length : Int) := h'.2.2.2.2.1.1
  rw [y_C_278, y_E_278_0, e14]
  by_cases c : P.length < 2
  · rw [if_neg (by rw [z_w_id (by omega) (by omega)]; omega), if_pos c, if_pos c]
    exact ⟨_, rfl, FG, G0⟩
  · rw [if_pos (by rw [z_w_id (by omega) (by omega)]; omega), if_neg c, if_neg c, y_E_278_14]
    generalize y_sI m 49 43 0 = m0 at *
    have lp : y_R sp ph (d + 19) 278 18 [some (y_bo 11 0 49), some (y_bi 0), some (y_bi 1)] [] m0 = _ := l_278 (sp := sp) (ph := ph) (d := d + 18) h' (P.length - 1) 1 0 (by omega) (by omega)
    have ok := u_mp_ok (P := P) (P.length - 1) 1 0 (by omega) (by omega) (fun i hi => by rw [show i = 0 by omega]; exact Nat.le_refl _)
    rw [lp]
    have e0 : u_mp P (P.length - 1) 1 0 = u_m0 P := rfl
    rw [e0] at ok ⊢
    unfold u_xrw
    generalize u_m0 P = x at *
    have bx := u_mn_lt (P := P) (i := x) h'.2.2.2.2.2.2 ok.1
    have t279 := t_279 (sp := sp) (ph := ph) (d := d + 18) h' ok.1
    have pi := h'.2.2.2.2.1.2 x ok.1
    have F1 : q_F (fun a _ => a = 102) m0 (y_sI (y_sI m0 102 0 (u_mn P x : Int)) 102 1 (u_mx P x : Int)) := q_F_trans (q_F_sI rfl) (q_F_sI rfl)
    have R1 := u_R0_F h' F1 (fun a k q => by omega)
    have W1 : u_xwr (y_sI (y_sI m0 102 0 (u_mn P x : Int)) 102 1 (u_mx P x : Int)) [u_mn P x, u_mx P x] := u_xwr_add (w := []) (fun i hi => absurd hi (Nat.not_lt_zero i))
    have h2x : 2 ^ x < 64 := Nat.pow_lt_pow_right (a := 2) (by decide) (show x < 6 by omega)
    have le := u_rl_le (P := P) hl (P.length - 1) (2 ^ x) [u_mn P x, u_mx P x]
    have l12 : 12 ^ (P.length - 1) ≤ 12 ^ 5 := Nat.pow_le_pow_right (by decide) (by omega)
    have l12' : (12 : Nat) ^ 5 = 248832 := by decide
    obtain ⟨m2, a1, a2, a3⟩ := l_276 (sp := sp) (ph := ph) (d := d + 15 - (P.length - 1)) (L := L) (lw := lw) (n := 2 * P.length) (P := P) rfl (by omega) (P.length - 1) (2 ^ x) [u_mn P x, u_mx P x] (y_sI (y_sI m0 102 0 (u_mn P x : Int)) 102 1 (u_mx P x : Int)) 0 none (by show 2 + _ = _; omega) h2x (fun z hz => by simp at hz; omega) R1 (u_gs_F G0 F1) (by omega) W1
    rw [show d + 15 - (P.length - 1) + 4 + (P.length - 1) = d + 19 by omega] at a1
    rw [Nat.zero_add] at a3
    have a1' : y_V sp ph (d + 19) 276 [y_bo 11 0 49, y_bi ((2 ^ x : Nat) : Int), y_bi 2] (y_sI (y_sI m0 102 0 (u_mn P x : Int)) 102 1 (u_mx P x : Int)) = _ := a1
    refine ⟨m2, ?_, q_F_trans FG (q_F_trans (q_F_mono F1 (fun a k q => by unfold u_hG; omega)) (q_F_mono a2 (fun a k q => by unfold u_hF at q; unfold u_hG; omega))), a3⟩
    have ex : y_mI (y_sI m0 102 0 (u_mn P x : Int)) (56 + x) 0 + y_mI (y_sI m0 102 0 (u_mn P x : Int)) (56 + x) 1 - y_mI (y_sI m0 102 0 (u_mn P x : Int)) 102 0 = (u_mx P x : Int) := by
      rw [e_II' (by omega), e_II' (by omega), e_II, pi.1, pi.2]
      unfold u_mn u_mx
      split <;> omega
    rw [y_E_278_47, t279, e_bI, e_g ⟨by omega, by omega⟩, e_g ⟨by omega, by omega⟩, Int.toNat_natCast, Nat.one_mul, ex, n_one (by omega), a1', e_bV]
theorem t_280 (h : u_R0 m L lw P) : ∃ m', y_V sp ph (d + 21) 280 [y_bo 11 0 49] m = y_rI ((if P.length < 2 then 0 else u_ct L lw (u_xrw P) : Nat) : Int) m' ∧ q_F (fun a k => u_hG a k ∨ (a = 49 ∧ k = 0)) m m' ∧ y_mI m' 49 0 = 0 := by
  have F0 : q_F (fun a k => a = 49 ∧ k = 0) m (y_sI m 49 0 0) := q_F_sI ⟨rfl, rfl⟩
  obtain ⟨m1, a1, a2, a3⟩ := t_278 (sp := sp) (ph := ph) (d := d) (u_R0_F h F0 (fun a k q => by omega))
  refine ⟨m1, ?_, q_F_trans (q_F_mono F0 (fun a k q => Or.inr q)) (q_F_mono a2 (fun a k q => Or.inl q)), ?_⟩
  · rw [y_C_280, y_E_280_0, a1, e_bV, a3.1]
  · rw [q_F_I a2 49 0 (by unfold u_hG; omega), e_II]
theorem t_281 (h : u_R0 m L lw P) : ((P.length < 2 ∨ u_ft L lw (2 * P.length) none (u_xrw P) = none) → ∃ m', y_V sp ph (d + 21) 281 [y_bo 11 0 49] m = y_rI (-1) m' ∧ q_F (fun a k => u_hG a k ∨ (a = 49 ∧ k = 0)) m m' ∧ y_mI m' 49 0 = 0) ∧ (2 ≤ P.length → ∀ b, u_ft L lw (2 * P.length) none (u_xrw P) = some b → ∃ m', y_V sp ph (d + 21) 281 [y_bo 11 0 49] m = y_rI (b.length : Int) m' ∧ q_F u_hI m m' ∧ y_mI m' 49 0 = 0 ∧ q_V m' b) := by
  have F0 : q_F (fun a k => a = 49 ∧ k = 0) m (y_sI m 49 0 0) := q_F_sI ⟨rfl, rfl⟩
  have h' := u_R0_F h F0 (fun a k q => by omega)
  obtain ⟨m1, a1, a2, a3⟩ := t_278 (sp := sp) (ph := ph) (d := d) h'
  have F1 : q_F (fun a k => u_hG a k ∨ (a = 49 ∧ k = 0)) m m1 := q_F_trans (q_F_mono F0 (fun a k q => Or.inr q)) (q_F_mono a2 (fun a k q => Or.inl q))
  have e0 : y_mI m1 49 0 = 0 := by rw [q_F_I a2 49 0 (by unfold u_hG; omega), e_II]
  have hl := h.2.2.2.2.2.1
  obtain ⟨g1, g2, g3, g4⟩ := a3
  refine ⟨fun q => ?_, fun q b hb => ?_⟩
  · have oN : (if P.length < 2 then none else u_ft L lw (2 * P.length) none (u_xrw P)) = none := by
      rcases q with q | q
      · rw [if_pos q]
      · rw [q]; split <;> rfl
    have c0 := g3.mp oN
    exact ⟨m1, by rw [y_C_281, y_E_281_0, a1, e_bV, g1, c0, if_neg (by decide)], F1, e0⟩
  · rw [if_neg (by omega)] at g1 g2 g3 g4
    rw [hb] at g3 g4
    have c0 : u_ct L lw (u_xrw P) ≠ 0 := fun r => by
      have := g3.mpr (by rw [if_neg (show ¬ P.length < 2 by omega)]; exact r)
      cases this
    obtain ⟨b1, b2, b3⟩ := g4 b rfl
    have e14 : y_mI m1 49 14 = (P.length : Int) := (u_R0_F h F1 (fun a k q => by unfold u_hG at q; omega)).2.2.2.2.1.1
    obtain ⟨m2, c1, c2, c3⟩ := t_196 (sp := sp) (ph := ph) (d := d + 19) (m := m1) (a := 97) (w := b) (by omega) (by omega) (by omega) (fun i hi => b3 i (by omega))
    have ev : y_mI m2 49 13 = (b.length : Int) := c3.1
    refine ⟨m2, ?_, q_F_trans (q_F_mono F1 (fun a k q => by unfold u_hG at q; unfold u_hI; omega)) (q_F_mono c2 (fun a k q => by unfold u_hI; omega)), by rw [q_F_I c2 49 0 (by omega)]; exact e0, c3⟩
    rw [y_C_281, y_E_281_0, a1, e_bV, g1, if_pos (by rw [z_w_id (by omega) (by omega)]; omega), y_E_281_18, e14, show (2 : Int) * (P.length : Int) = (b.length : Int) by omega, c1, e_bV, ev]
end Guess
