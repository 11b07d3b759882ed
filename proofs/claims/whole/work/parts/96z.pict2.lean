section Pict
variable {sp : Nat → Nat} {ph : Bool} {d : Nat} {m m' : y_m} {L R A B t lw X : Nat} {w : List Nat} {P : List (Nat × Nat)}
theorem s_157 (hP : u_PC m 25 P) : ∃ m', y_V sp ph (d + 2) 157 [y_bo 10 0 0] m = y_rI (P.length : Int) m' ∧ q_F u_sf m m' ∧ u_PC m' 25 [] := by
  have s79 : y_V sp ph (d + 1) 79 [y_bo 3 0 25] m = y_rV (y_sI (y_sI m 25 1 0) 25 2 0) := by rw [y_C_79, y_E_79_0]
  refine ⟨_, by rw [y_C_157, y_E_157_0, s79, e_bV, hP.1], q_F_trans (q_F_sI (by unfold u_sf; omega)) (q_F_sI (by unfold u_sf; omega)), u_PC_0 ?_ ?_⟩
  · rw [e_II' (by omega), e_II]
  · rw [e_II]
theorem t_275 (hP : u_PR m P) : y_V sp ph (d + 1) 275 [y_bo 11 0 49] m = y_rI (P.length : Int) (y_sI (y_sI m 49 0 0) 49 14 0) := by
  have e : y_mI (y_sI m 49 0 0) 49 14 = P.length := by rw [e_II' (by omega)]; exact hP.1
  rw [y_C_275, y_E_275_0, e]
theorem u_fp_cons {pr : Nat × Nat} {P : List (Nat × Nat)} : u_fp (pr :: P) = pr.1 :: pr.2 :: u_fp P := rfl
theorem l_273 {x : Nat} (hP : u_PR m P) (hl : P.length ≤ 6) (hx : x < 12) (hb : ∀ h ∈ u_fp P, h < 12) : ∀ (k j : Nat), j + k = P.length → y_R sp ph d 273 2 [some (y_bo 11 0 49), some (y_bi (x : Int)), some (y_bi (j : Int))] [] m = y_rI (n_b (decide (x ∈ u_fp (P.drop j)))) m := by
  intro k
  induction k with
  | zero =>
    intro j hj
    rw [y_E_273_2, hP.1, if_pos (by rw [z_w_id (by omega) (by omega), z_w_id (by omega) (by omega)]; omega), y_E_273_42, List.drop_of_length_le (by omega), decide_eq_false (show ¬ x ∈ u_fp [] from List.not_mem_nil)]; rfl
  | succ k ih =>
    intro j hj
    have hj' : j < P.length := by omega
    have ed : P.drop j = P[j] :: P.drop (j + 1) := List.drop_eq_getElem_cons hj'
    have eg : P.getD j (0, 0) = P[j] := by rw [List.getD_eq_getElem?_getD, List.getElem?_eq_getElem hj']; rfl
    obtain ⟨p1, p2⟩ := hP.2 j hj'
    rw [eg] at p1 p2
    have b1 := hb P[j].1 (u_fp_mem.mpr ⟨P[j], List.getElem_mem hj', Or.inl rfl⟩)
    have b2 := hb P[j].2 (u_fp_mem.mpr ⟨P[j], List.getElem_mem hj', Or.inr rfl⟩)
    have r1 : (56 : Nat) + 1 * (j : Int).toNat = 56 + j := by omega
    rw [y_E_273_2, hP.1, if_neg (by rw [z_w_id (by omega) (by omega), z_w_id (by omega) (by omega)]; omega), e_g ⟨by omega, by omega⟩, e_g ⟨by omega, by omega⟩, r1, p1, p2, ed, u_fp_cons]
    by_cases c1 : P[j].1 = x
    · rw [if_pos (by rw [c1]), y_E_273_34, decide_eq_true (by rw [c1]; exact List.mem_cons_self)]; rfl
    · by_cases c2 : P[j].2 = x
      · rw [if_neg (by rw [z_w_id (by omega) (by omega), z_w_id (by omega) (by omega)]; omega), if_neg (fun r => r (by rw [c2])), y_E_273_34, decide_eq_true (by rw [c2]; exact List.mem_cons_of_mem _ List.mem_cons_self)]; rfl
      · rw [if_neg (by rw [z_w_id (by omega) (by omega), z_w_id (by omega) (by omega)]; omega), if_pos (by rw [z_w_id (by omega) (by omega), z_w_id (by omega) (by omega)]; omega), y_E_273_36, show (j : Int) + 1 = ((j + 1 : Nat) : Int) by omega, ih (j + 1) (by omega)]
        have e : decide (x ∈ u_fp (P.drop (j + 1))) = decide (x ∈ P[j].1 :: P[j].2 :: u_fp (P.drop (j + 1))) := by
          rw [Bool.eq_iff_iff, decide_eq_true_iff, decide_eq_true_iff, List.mem_cons, List.mem_cons]
          constructor
          · intro h; exact Or.inr (Or.inr h)
          · rintro (h | h | h)
            · exact absurd h.symm c1
            · exact absurd h.symm c2
            · exact h
        rw [e]
theorem t_273 {x : Nat} (hP : u_PR m P) (hl : P.length ≤ 6) (hx : x < 12) (hb : ∀ h ∈ u_fp P, h < 12) : y_V sp ph (d + 1) 273 [y_bo 11 0 49, y_bi (x : Int)] m = y_rI (n_b (decide (x ∈ u_fp P))) m := by
  rw [y_C_273, y_E_273_0]
  exact l_273 hP hl hx hb P.length 0 (by omega)
theorem t_274r {x y : Int} (hL : y_mI m 52 0 = (L : Int)) (hR : y_mI m 52 1 = (R : Int)) (hl1 : L ≤ 6) (hr1 : R ≤ 6) (h0 : -2147483648 ≤ x) (h1 : x < 2147483648) (h2 : -2147483648 ≤ y) (h3 : y < 2147483648) (hx : ¬ ((0 ≤ x ∧ x < L + R) ∧ (0 ≤ y ∧ y < L + R))) : y_V sp ph (d + 2) 274 [y_bo 11 0 49, y_bi x, y_bi y] m = y_rI 0 (y_sI (y_sI m 49 0 0) 49 0 1) := by
  have e0 : y_mI (y_sI m 49 0 0) 49 0 = 0 := e_II
  have t199 := t_199 (sp := sp) (ph := ph) (d := d) (m := y_sI m 49 0 0)
  rw [e_II' (by omega), e_II' (by omega), hL, hR] at t199
  have t180 := fun v (a : -2147483648 ≤ v) (b : v < 2147483648) => t_180 (sp := sp) (ph := ph) (d := d) (m := y_sI m 49 0 0) (v := v) (lo := 0) (hi := (L : Int) + (R : Int) - 1) a b (by omega) (by omega) (by omega) (by omega)
  have t179 := t_179b (sp := sp) (ph := ph) (d := d) (m := y_sI m 49 0 0) e0 (x := 1) (by omega) (by omega)
  rw [y_C_274, y_E_274_0, t199, e_bI, t180 x h0 h1, e_bI]
  by_cases c : 0 ≤ x ∧ x ≤ (L : Int) + (R : Int) - 1
  · rw [decide_eq_true c, if_neg (by decide), t199, e_bI, t180 y h2 h3, e_bI, decide_eq_false (by omega), if_neg (by decide), y_E_274_34, y_E_274_39, t179, e_bI, if_pos (by decide), y_E_274_64]
  · rw [decide_eq_false c, if_pos (by decide), y_E_274_34, y_E_274_39, t179, e_bI, if_pos (by decide), y_E_274_64]
theorem l_274 {x y : Nat} (hL : y_mI m 52 0 = (L : Int)) (hR : y_mI m 52 1 = (R : Int)) (hl1 : L ≤ 6) (hr1 : R ≤ 6) (hx : x < L + R) (hy : y < L + R) : y_V sp ph (d + 3) 274 [y_bo 11 0 49, y_bi (x : Int), y_bi (y : Int)] m = if x = y then y_rI 0 (y_sI (y_sI m 49 0 0) 49 0 2) else y_R sp ph (d + 2) 274 66 [some (y_bo 11 0 49), some (y_bi (x : Int)), some (y_bi (y : Int))] [] (y_sI m 49 0 0) := by
  have e0 : y_mI (y_sI m 49 0 0) 49 0 = 0 := e_II
  have t199 := t_199 (sp := sp) (ph := ph) (d := d + 1) (m := y_sI m 49 0 0)
  rw [e_II' (by omega), e_II' (by omega), hL, hR] at t199
  have t180 := fun v (a : -2147483648 ≤ v) (b : v < 2147483648) => t_180 (sp := sp) (ph := ph) (d := d + 1) (m := y_sI m 49 0 0) (v := v) (lo := 0) (hi := (L : Int) + (R : Int) - 1) a b (by omega) (by omega) (by omega) (by omega)
  have t179a := fun x => t_179a (sp := sp) (ph := ph) (d := d + 1) (m := y_sI m 49 0 0) e0 (x := x)
  have t179b := t_179b (sp := sp) (ph := ph) (d := d + 1) (m := y_sI m 49 0 0) e0 (x := 2) (by omega) (by omega)
  rw [y_C_274, y_E_274_0, t199, e_bI, t180 x (by omega) (by omega), e_bI, decide_eq_true (show (0 : Int) ≤ (x : Int) ∧ (x : Int) ≤ (L : Int) + (R : Int) - 1 by omega), if_neg (by decide), t199, e_bI, t180 y (by omega) (by omega), e_bI, decide_eq_true (show (0 : Int) ≤ (y : Int) ∧ (y : Int) ≤ (L : Int) + (R : Int) - 1 by omega), if_pos (by decide), y_E_274_38, y_E_274_39, t179a 1, e_bI, if_neg (by decide)]
  by_cases c : x = y
  · rw [if_neg (fun r => r (by rw [c])), if_pos c, y_E_274_57, t179b, e_bI, if_neg (by decide), y_E_274_64]
  · rw [if_pos (by rw [z_w_id (by omega) (by omega), z_w_id (by omega) (by omega)]; omega), if_neg c, y_E_274_56, y_E_274_57, t179a 2, e_bI, if_pos (by decide)]
def u_sg (a k : Nat) : Prop := (a = 49 ∧ (k = 0 ∨ k = 14)) ∨ (56 ≤ a ∧ a ≤ 61 ∧ k < 2)
theorem t_274 {x y : Nat} (hU : u_R m L R A B t lw X w) (hP : u_PR m P) (hk : u_Pk L R t P) (hx : x < L + R) (hy : y < L + R) (hxy : x ≠ y) : (u_so t P x y → y_V sp ph (d + 3) 274 [y_bo 11 0 49, y_bi (x : Int), y_bi (y : Int)] m = y_rI (-1) (y_sI m 49 0 0)) ∧ (¬ u_so t P x y → ∃ m', y_V sp ph (d + 3) 274 [y_bo 11 0 49, y_bi (x : Int), y_bi (y : Int)] m = y_rI ((P.length : Int) + 1) m' ∧ q_F u_sg m m' ∧ y_mI m' 49 0 = 0 ∧ u_PR m' (P ++ [(x, y)])) := by
  obtain ⟨⟨c0, c1, c2, c3, c4, c6, c7, c8, c9, cB⟩, -⟩ := hU
  have hl1 := cB.1
  have hr1 := cB.2.1
  have hl := hk.1
  have hP' : u_PR (y_sI m 49 0 0) P := u_PR_F (S := fun a k => a = 49 ∧ k = 0) hP hl (q_F_sI ⟨rfl, rfl⟩) (by omega) (fun a k r => by omega)
  have hb : ∀ h ∈ u_fp P, h < 12 := fun h hh => by have := (hk.2.2 h hh).1; omega
  have tx := t_273 (sp := sp) (ph := ph) (d := d + 1) (x := x) hP' hl (by omega) hb
  have ty := t_273 (sp := sp) (ph := ph) (d := d + 1) (x := y) hP' hl (by omega) hb
  have e6 : y_mI (y_sI m 49 0 0) 52 6 = t := by rw [e_II' (by omega)]; exact c6
  have e0 : y_mI (y_sI m 49 0 0) 49 0 = 0 := e_II
  have F0 : q_F u_sg m (y_sI m 49 0 0) := q_F_sI (by unfold u_sg; omega)
  rw [l_274 c0 c1 hl1 hr1 hx hy, if_neg hxy]
  generalize y_sI m 49 0 0 = M at *
  have n1 : ∀ x : Nat, x < 12 → z_iand (z_ishr (t : Int) (x : Int)) 1 = if t.testBit x then 1 else 0 := fun x hx => n_bit (by omega) (by omega)
  unfold u_so
  rw [y_E_274_66, tx, e_bI]
  by_cases d1 : x ∈ u_fp P
  · rw [decide_eq_true d1, if_pos (by decide), y_E_274_121]
    exact ⟨fun _ => rfl, fun r => absurd (Or.inr (Or.inr (Or.inl d1))) r⟩
  rw [decide_eq_false d1, if_neg (by decide), ty, e_bI]
  by_cases d2 : y ∈ u_fp P
  · rw [decide_eq_true d2, if_pos (by decide), y_E_274_121]
    exact ⟨fun _ => rfl, fun r => absurd (Or.inr (Or.inr (Or.inr (Or.inl d2)))) r⟩
  rw [decide_eq_false d2, if_neg (by decide), e6, n1 x (by omega)]
  rcases Bool.eq_false_or_eq_true (t.testBit x) with d3 | d3
  · rw [d3, if_pos rfl, if_pos (by decide), y_E_274_121]
    exact ⟨fun _ => rfl, fun r => absurd (Or.inl rfl) r⟩
  rw [d3, if_neg (show ¬ (false = true) by decide), if_neg (by decide), n1 y (by omega)]
  rcases Bool.eq_false_or_eq_true (t.testBit y) with d4 | d4
  · rw [d4, if_pos rfl, if_pos (by decide), y_E_274_121]
    exact ⟨fun _ => rfl, fun r => absurd (Or.inr (Or.inl rfl)) r⟩
  rw [d4, if_neg (show ¬ (false = true) by decide), if_neg (by decide), hP'.1]
  by_cases d5 : P.length = 6
  · rw [if_neg (by rw [z_w_id (by omega) (by omega)]; omega), y_E_274_121]
    exact ⟨fun _ => rfl, fun r => absurd (Or.inr (Or.inr (Or.inr (Or.inr d5)))) r⟩
  have er : (56 : Nat) + 1 * ((P.length : Nat) : Int).toNat = 56 + P.length := by omega
  have k1 : y_mI (y_sI M (56 + P.length) 0 x) 49 14 = P.length := by rw [e_II' (by omega)]; exact hP'.1
  have k2 : y_mI (y_sI (y_sI M (56 + P.length) 0 x) (56 + P.length) 1 y) 49 14 = P.length := by rw [e_II' (by omega)]; exact k1
  rw [if_pos (by rw [z_w_id (by omega) (by omega)]; omega), y_E_274_123, hP'.1, er, k1, er, k2, e_g ⟨by omega, by omega⟩, e_g ⟨by omega, by omega⟩, e_II]
  refine ⟨fun r => ?_, fun _ => ⟨_, rfl, q_F_trans F0 (q_F_trans (q_F_sI (by unfold u_sg; omega)) (q_F_trans (q_F_sI (by unfold u_sg; omega)) (q_F_sI (by unfold u_sg; omega)))), ?_, ?_, fun i hi => ?_⟩⟩
  · rcases r with r | r | r | r | r
    · cases r
    · cases r
    · exact absurd r d1
    · exact absurd r d2
    · exact absurd r d5
  · rw [e_II' (by omega), e_II' (by omega), e_II' (by omega)]; exact e0
  · rw [e_II, List.length_append, List.length_singleton]; omega
  · rw [List.length_append, List.length_singleton] at hi
    rw [e_II' (by omega), e_II' (by omega)]
    by_cases c : i = P.length
    · subst c
      rw [e_II, e_II' (by omega), e_II, List.getD_eq_getElem?_getD, List.getElem?_append_right (Nat.le_refl _), Nat.sub_self]
      exact ⟨rfl, rfl⟩
    · rw [e_II' (by omega), e_II' (by omega), e_II' (by omega), e_II' (by omega), List.getD_eq_getElem?_getD, List.getElem?_append_left (by omega), ← List.getD_eq_getElem?_getD]
      exact hP'.2 i (by omega)
end Pict
