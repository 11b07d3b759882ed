/-! ===== knot and weeks: what comes first ===== -/
section Pre
variable {sp : Nat → Nat} {ph : Bool} {d : Nat} {m m' : y_m} {L R A B t lw X : Nat} {w : List Nat} {K : List (List Nat)} {x y : Int}
theorem s_161n (hK : c_K m L R A B t lw X []) : y_V sp true (d + 2) 161 [y_bo 10 0 0, y_bi x, y_bi y] m = some (.inr 2, y_tm m) := by
  have s171 := s_171n (sp := sp) (d := d) (m := m) hK.2.2.2.2.2.2.2.2.2.2.2.2.2.2.1
  rw [y_C_161, y_E_161_0, s171]; rfl
theorem s_161r (hK : c_K m L R A B t lw X w) (hn : w ≠ []) (h0 : -2147483648 ≤ x) (h1 : x < 2147483648) (h2 : -2147483648 ≤ y) (h3 : y < 2147483648) (hx : ¬ ((0 ≤ x ∧ x ≤ 999) ∧ (0 ≤ y ∧ y ≤ 1))) : y_V sp true (d + 2) 161 [y_bo 10 0 0, y_bi x, y_bi y] m = some (.inr 0, y_tm m) := by
  have s171 := s_171y (sp := sp) (ph := true) (d := d) (m := m) hK.2.2.2.2.2.2.2.2.2.2.2.2.2.2.1 hn
  rw [y_C_161, y_E_161_0, s171, e_bV, z_w_id h0 h1, z_w_id h2 h3]
  by_cases c1 : x < 0
  · rw [if_pos c1, y_E_161_24]; rfl
  by_cases c2 : 999 < x
  · rw [if_neg c1, if_pos c2, y_E_161_24]; rfl
  · rw [if_neg c1, if_neg c2, if_neg (by omega), if_neg (by omega), y_E_161_24]; rfl
theorem l_161 {x y : Nat} (hK : c_K m L R A B t lw X w) (hn : w ≠ []) (hx : x ≤ 999) (hy : y ≤ 1) : y_V sp ph (d + 2) 161 [y_bo 10 0 0, y_bi (x : Int), y_bi (y : Int)] m = y_bI (y_V sp ph (d + 1) 60 [y_bo 4 0 3, y_bo 0 0 (y_mc m), y_bo 8 0 23, y_bi (x : Int), y_bi (y : Int)] m) (fun v1 m1 => y_rI v1 m1) (fun e m1 => y_px e m1) := by
  have s171 := s_171y (sp := sp) (ph := ph) (d := d) (m := m) hK.2.2.2.2.2.2.2.2.2.2.2.2.2.2.1 hn
  have zx : z_w (x : Int) = (x : Int) := z_w_id (by omega) (by omega)
  rw [y_C_161, y_E_161_0, s171, e_bV, zx, if_neg (by omega), if_neg (by omega)]
  rcases (show y = 0 ∨ y = 1 by omega) with rfl | rfl
  · rw [if_pos (by decide), y_E_161_35, if_pos (by decide), y_E_161_60, y_E_161_61]; rfl
  · rw [if_neg (by decide), if_pos (by decide), y_E_161_35, if_neg (by decide), y_E_161_61]; rfl
theorem t_285n (hV : q_V m []) : y_V sp ph (d + 3) 285 [y_bo 11 0 49, y_bi x, y_bi y] m = y_rI 0 (y_sI (y_sI m 49 0 0) 49 0 1) := by
  have hV' : q_V (y_sI m 49 0 0) [] := q_V_F hV (q_F_sI (S := fun a k => a = 49 ∧ k = 0) ⟨rfl, rfl⟩) (fun a k r => by omega)
  have t230 := t_230b (sp := sp) (ph := ph) (d := d) (m := y_sI m 49 0 0) e_II hV'
  rw [y_C_285, y_E_285_0, t230, e_bI, if_pos (by decide), y_E_285_45]
theorem l_285 (hV : q_V m w) (hn : w ≠ []) (h0 : -2147483648 ≤ x) (h1 : x < 2147483648) (h2 : -2147483648 ≤ y) (h3 : y < 2147483648) : y_V sp ph (d + 3) 285 [y_bo 11 0 49, y_bi x, y_bi y] m = if (0 ≤ x ∧ x ≤ 999) ∧ (0 ≤ y ∧ y ≤ 1) then y_R sp ph (d + 2) 285 47 [some (y_bo 11 0 49), some (y_bi x), some (y_bi y), none, none, none, none, none, none] [] (y_sI m 49 0 0) else y_rI 0 (y_sI (y_sI m 49 0 0) 49 0 2) := by
  have hV' : q_V (y_sI m 49 0 0) w := q_V_F hV (q_F_sI (S := fun a k => a = 49 ∧ k = 0) ⟨rfl, rfl⟩) (fun a k r => by omega)
  have t230 := t_230a (sp := sp) (ph := ph) (d := d) (m := y_sI m 49 0 0) e_II hV' hn
  have t180a := t_180 (sp := sp) (ph := ph) (d := d + 1) (m := y_sI m 49 0 0) (v := x) (lo := 0) (hi := 999) h0 h1 (by omega) (by omega) (by omega) (by omega)
  have t180b := t_180 (sp := sp) (ph := ph) (d := d + 1) (m := y_sI m 49 0 0) (v := y) (lo := 0) (hi := 1) h2 h3 (by omega) (by omega) (by omega) (by omega)
  have t179a := t_179a (sp := sp) (ph := ph) (d := d + 1) (m := y_sI m 49 0 0) e_II (x := 2)
  have t179b := t_179b (sp := sp) (ph := ph) (d := d + 1) (m := y_sI m 49 0 0) e_II (x := 2) (by omega) (by omega)
  rw [y_C_285, y_E_285_0, t230, e_bI, if_neg (by decide), t180a, e_bI]
  by_cases c1 : 0 ≤ x ∧ x ≤ 999
  · rw [decide_eq_true c1, if_neg (by decide), t180b, e_bI]
    by_cases c2 : 0 ≤ y ∧ y ≤ 1
    · rw [decide_eq_true c2, if_pos (by decide), y_E_285_37, y_E_285_38, t179a, e_bI, if_pos (by decide), if_pos ⟨c1, c2⟩]
    · rw [decide_eq_false c2, if_neg (by decide), y_E_285_33, y_E_285_38, t179b, e_bI, if_neg (by decide), y_E_285_45, if_neg (fun r => c2 r.2)]
  · rw [decide_eq_false c1, if_pos (by decide), y_E_285_33, y_E_285_38, t179b, e_bI, if_neg (by decide), y_E_285_45, if_neg (fun r => c1 r.1)]
theorem s_165r (h0 : -2147483648 ≤ x) (h1 : x < 2147483648) (h2 : -2147483648 ≤ y) (h3 : y < 2147483648) (hx : ¬ ((1 ≤ x ∧ x ≤ 12) ∧ (0 ≤ y ∧ y ≤ 1))) : y_V sp true (d + 1) 165 [y_bo 10 0 0, y_bi x, y_bi y] m = some (.inr 0, y_tm m) := by
  rw [y_C_165, y_E_165_0, z_w_id h0 h1, z_w_id h2 h3]
  by_cases c1 : x < 1
  · rw [if_pos c1, y_E_165_20]; rfl
  by_cases c2 : 12 < x
  · rw [if_neg c1, if_pos c2, y_E_165_20]; rfl
  · rw [if_neg c1, if_neg c2, if_neg (by omega), if_neg (by omega), y_E_165_20]; rfl
theorem l_165 {x y : Nat} (hC : u_KC m 22 L K) (hk : K.length ≤ 4) (hx1 : 1 ≤ x) (hx : x ≤ 12) (hy : y ≤ 1) : y_V sp ph (d + 1) 165 [y_bo 10 0 0, y_bi (x : Int), y_bi (y : Int)] m = if K = [] then y_rI (-1) m else y_R sp ph d 165 43 [some (y_bo 10 0 0), some (y_bi (x : Int)), some (y_bi (y : Int))] [] m := by
  have zx : z_w (x : Int) = (x : Int) := z_w_id (by omega) (by omega)
  have e31 : y_R sp ph d 165 31 [some (y_bo 10 0 0), some (y_bi (x : Int)), some (y_bi (y : Int))] [] m = if K = [] then y_rI (-1) m else y_R sp ph d 165 43 [some (y_bo 10 0 0), some (y_bi (x : Int)), some (y_bi (y : Int))] [] m := by
    rw [y_E_165_31, hC.1]
    by_cases c : K = []
    · rw [if_neg (by rw [c]; decide), if_pos c]
    · have hp : 0 < K.length := List.length_pos_iff.mpr c
      rw [if_pos (by rw [z_w_id (by omega) (by omega)]; omega), if_neg c]
  rw [← e31, y_C_165, y_E_165_0, zx, if_neg (by omega), if_neg (by omega)]
  rcases (show y = 0 ∨ y = 1 by omega) with rfl | rfl
  · rw [if_pos (by decide)]
  · rw [if_neg (by decide), if_pos (by decide)]
theorem l_291 (hC : u_KR m K) (hk : K.length ≤ 4) (h0 : -2147483648 ≤ x) (h1 : x < 2147483648) (h2 : -2147483648 ≤ y) (h3 : y < 2147483648) : y_V sp ph (d + 2) 291 [y_bo 11 0 49, y_bi x, y_bi y] m = if (1 ≤ x ∧ x ≤ 12) ∧ (0 ≤ y ∧ y ≤ 1) then (if K = [] then y_rI (-1) (y_sI m 49 0 0) else y_R sp ph (d + 1) 291 48 [some (y_bo 11 0 49), some (y_bi x), some (y_bi y)] [] (y_sI m 49 0 0)) else y_rI 0 (y_sI (y_sI m 49 0 0) 49 0 1) := by
  have e15 : y_mI (y_sI m 49 0 0) 49 15 = K.length := by rw [e_II' (by omega)]; exact hC.1
  have t180a := t_180 (sp := sp) (ph := ph) (d := d) (m := y_sI m 49 0 0) (v := x) (lo := 1) (hi := 12) h0 h1 (by omega) (by omega) (by omega) (by omega)
  have t180b := t_180 (sp := sp) (ph := ph) (d := d) (m := y_sI m 49 0 0) (v := y) (lo := 0) (hi := 1) h2 h3 (by omega) (by omega) (by omega) (by omega)
  have t179a := t_179a (sp := sp) (ph := ph) (d := d) (m := y_sI m 49 0 0) e_II (x := 1)
  have t179b := t_179b (sp := sp) (ph := ph) (d := d) (m := y_sI m 49 0 0) e_II (x := 1) (by omega) (by omega)
  rw [y_C_291, y_E_291_0, t180a, e_bI]
  by_cases c1 : 1 ≤ x ∧ x ≤ 12
  · rw [decide_eq_true c1, if_neg (by decide), t180b, e_bI]
    by_cases c2 : 0 ≤ y ∧ y ≤ 1
    · rw [decide_eq_true c2, if_pos (by decide), y_E_291_29, y_E_291_30, t179a, e_bI, if_pos (by decide), if_pos ⟨c1, c2⟩, y_E_291_39, e15]
      by_cases c : K = []
      · rw [if_neg (by rw [c]; decide), if_pos c]
      · have hp : 0 < K.length := List.length_pos_iff.mpr c
        rw [if_pos (by rw [z_w_id (by omega) (by omega)]; omega), if_neg c]
    · rw [decide_eq_false c2, if_neg (by decide), y_E_291_25, y_E_291_30, t179b, e_bI, if_neg (by decide), if_neg (fun r => c2 r.2)]
  · rw [decide_eq_false c1, if_pos (by decide), y_E_291_25, y_E_291_30, t179b, e_bI, if_neg (by decide), if_neg (fun r => c1 r.1)]
end Pre
