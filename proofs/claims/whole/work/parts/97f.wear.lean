/-! ===== wear, keep, drop ===== -/
section Wear
variable {sp : Nat → Nat} {ph : Bool} {d : Nat} {m m' : y_m} {L R A B t lw X a n1 : Nat} {w : List Nat}
theorem n_idx {x : Nat} : ∀ {w : List Nat} {j : Nat}, j < w.length → w.getD j 0 = x → (∀ i, i < j → w.getD i 0 ≠ x) → w.idxOf x = j
  | [], j, h, _, _ => absurd h (Nat.not_lt_zero _)
  | y :: w, 0, _, h2, _ => by
    have e : y = x := h2
    rw [e, List.idxOf_cons_self]
  | y :: w, j + 1, h1, h2, h3 => by
    have hy : y ≠ x := h3 0 (by omega)
    rw [List.idxOf_cons, show (y == x) = false from beq_eq_false_iff_ne.mpr hy, n_idx (w := w) (j := j) (by simpa using h1) h2 (fun i hi => h3 (i + 1) (by omega))]; rfl
theorem n_mem_get {x : Nat} {w : List Nat} (h : x ∈ w) : ∃ i, i < w.length ∧ w.getD i 0 = x := by
  obtain ⟨i, hi, e⟩ := List.getElem_of_mem h
  exact ⟨i, hi, by rw [List.getD_eq_getElem?_getD, List.getElem?_eq_getElem hi]; exact e⟩
theorem l_286 {x : Nat} (hA : ∀ i, i < w.length → y_mI m a i = ((w.getD i 0 : Nat) : Int)) (hn : w ≠ []) (hl : w.length ≤ 12) (h1 : 12 ≤ n1) (hb : ∀ h ∈ w, h < 12) (hx : x < 12) (hL : y_mI m 52 0 = (L : Int)) (h6 : L ≤ 6) : ∀ (k j : Nat), j + k = w.length → (∀ i, i < j → w.getD i 0 ≠ x) → y_R sp ph (d + 2) 286 3 [some (y_bo 11 0 49), some (y_bo 100 n1 a), some (y_bi (w.length : Int)), some (y_bi (x : Int)), some (y_bi (j : Int))] [] m = y_rI (q_wear L w x) m := by
  intro k
  induction k with
  | zero =>
    intro j hj hne
    have nm : x ∉ w := fun h => by
      obtain ⟨i, hi, e⟩ := n_mem_get h
      exact hne i (by omega) e
    unfold q_wear
    rw [y_E_286_3, if_pos (by rw [z_w_id (by omega) (by omega), z_w_id (by omega) (by omega)]; omega), y_E_286_71, if_neg nm]
  | succ k ih =>
    intro j hj hne
    have ej := hA j (by omega)
    have hwj : w.getD j 0 ∈ w := by rw [← q_at_nat (by omega)]; exact q_at_mem hn
    have bj := hb _ hwj
    rw [y_E_286_3, if_neg (by rw [z_w_id (by omega) (by omega), z_w_id (by omega) (by omega)]; omega), e_g ⟨by omega, by omega⟩, Int.toNat_natCast, ej]
    by_cases c : w.getD j 0 = x
    · have hlen : 0 < w.length := by omega
      have hi := n_idx (by omega) c hne
      have hm : x ∈ w := c ▸ hwj
      have r1 : z_irem ((j : Int) + (w.length : Int) - 1) (w.length : Int) = ((j : Int) + (w.length : Int) - 1) % (w.length : Int) := n_irem (by omega) (by omega) (by omega) (by omega)
      have r2 : z_irem ((j : Int) + 1) (w.length : Int) = ((j : Int) + 1) % (w.length : Int) := n_irem (by omega) (by omega) (by omega) (by omega)
      have m1 := Int.emod_nonneg ((j : Int) + (w.length : Int) - 1) (show (w.length : Int) ≠ 0 by omega)
      have m2 := Int.emod_lt_of_pos ((j : Int) + (w.length : Int) - 1) (show (0 : Int) < (w.length : Int) by omega)
      have m3 := Int.emod_nonneg ((j : Int) + 1) (show (w.length : Int) ≠ 0 by omega)
      have m4 := Int.emod_lt_of_pos ((j : Int) + 1) (show (0 : Int) < (w.length : Int) by omega)
      have g1 : y_mI m a (((j : Int) + (w.length : Int) - 1) % (w.length : Int)).toNat = (q_at w ((j : Int) - 1) : Nat) := by rw [q_at_pred (j : Int) hn]; exact hA _ (by omega)
      have g2 : y_mI m a (((j : Int) + 1) % (w.length : Int)).toNat = (q_at w ((j : Int) + 1) : Nat) := q_at_get hA hn _
      have q1 := hb _ (q_at_mem (w := w) (i := (j : Int) - 1) hn)
      have q3 := hb _ (q_at_mem (w := w) (i := (j : Int) + 1) hn)
      have qj : q_at w (j : Int) = x := by rw [q_at_nat (by omega)]; exact c
      have t211a := t_211 (sp := sp) (ph := ph) (d := d) (m := m) (x := q_at w ((j : Int) - 1)) (y := x) hL h6 (by omega) (by omega)
      have t211b := t_211 (sp := sp) (ph := ph) (d := d) (m := m) (x := x) (y := q_at w ((j : Int) + 1)) hL h6 (by omega) (by omega)
      have ea : r_x L (q_at w ((j : Int) - 1)) x = q_ac L w ((j : Int) - 1) := by
        unfold q_ac
        rw [show (j : Int) - 1 + 1 = (j : Int) by omega, qj]
      have eb : r_x L x (q_at w ((j : Int) + 1)) = q_ac L w (j : Int) := by
        unfold q_ac
        rw [qj]
      rw [ea] at t211a
      rw [eb] at t211b
      have zl : z_w (w.length : Int) ≠ 0 := by rw [z_w_id (by omega) (by omega)]; omega
      unfold q_wear
      rw [if_neg (fun r => r (by rw [c])), e_g zl, r1, e_g ⟨m1, by omega⟩, g1, t211a, e_bI, if_pos hm, hi]
      have fin : ∀ v : Int, y_R sp ph (d + 2) 286 41 [some (y_bo 11 0 49), some (y_bo 100 n1 a), some (y_bi (w.length : Int)), some (y_bi (x : Int)), some (y_bi (j : Int))] [y_bi v, y_bi 1] m = y_rI (1 + v + (1 - n_b (q_ac L w (j : Int)))) m := fun v => by
        rw [y_E_286_41, e_g zl, r2, e_g ⟨m3, by omega⟩, g2, t211b, e_bI]
        cases q_ac L w (j : Int)
        · rw [if_pos (by decide), y_E_286_62, y_E_286_63]; rfl
        · rw [if_neg (by decide), y_E_286_63]; rfl
      cases q_ac L w ((j : Int) - 1)
      · rw [if_pos (by decide), y_E_286_40, fin]
        refine congrArg (fun z => y_rI z m) ?_
        rw [show n_b false = 0 from rfl]; omega
      · rw [if_neg (by decide), fin]
        refine congrArg (fun z => y_rI z m) ?_
        rw [show n_b true = 1 from rfl]; omega
    · rw [if_pos (by rw [z_w_id (by omega) (by omega), z_w_id (by omega) (by omega)]; omega), y_E_286_65, show (j : Int) + 1 = ((j + 1 : Nat) : Int) by omega]
      exact ih (j + 1) (by omega) (fun i hi => by
        by_cases q : i = j
        · subst q; exact c
        · exact hne i (by omega))
theorem t_286 {x : Nat} (hA : ∀ i, i < w.length → y_mI m a i = ((w.getD i 0 : Nat) : Int)) (hn : w ≠ []) (hl : w.length ≤ 12) (h1 : 12 ≤ n1) (hb : ∀ h ∈ w, h < 12) (hx : x < 12) (hL : y_mI m 52 0 = (L : Int)) (h6 : L ≤ 6) : y_V sp ph (d + 3) 286 [y_bo 11 0 49, y_bo 100 n1 a, y_bi (w.length : Int), y_bi (x : Int)] m = y_rI (q_wear L w x) m := by
  rw [y_C_286, y_E_286_0]
  exact l_286 hA hn hl h1 hb hx hL h6 w.length 0 (by omega) (fun i hi => absurd hi (Nat.not_lt_zero i))
theorem s_162r {x : Int} (hK : c_K m L R A B t lw X w) (h0 : -2147483648 ≤ x) (h1 : x < 2147483648) (hx : ¬ (0 ≤ x ∧ x < L + R)) : y_V sp true (d + 4) 162 [y_bo 10 0 0, y_bi x] m = some (.inr 1, y_tm m) := by
  have b := s_170n (sp := sp) (d := d) hK h0 h1 hx
  rw [y_C_162, y_E_162_0, b]; rfl
theorem s_162n {x : Nat} (hK : c_K m L R A B t lw X []) (hx : x < L + R) : y_V sp true (d + 4) 162 [y_bo 10 0 0, y_bi (x : Int)] m = some (.inr 2, y_tm m) := by
  have a := s_170y (sp := sp) (ph := true) (d := d) (x := (x : Int)) hK (by omega) (by omega)
  have s171 := s_171n (sp := sp) (d := d + 2) (m := m) hK.2.2.2.2.2.2.2.2.2.2.2.2.2.2.1
  rw [y_C_162, y_E_162_0, a, e_bV, s171]; rfl
theorem s_162 {x : Nat} (hK : c_K m L R A B t lw X w) (hn : w ≠ []) (hx : x < L + R) : y_V sp ph (d + 5) 162 [y_bo 10 0 0, y_bi (x : Int)] m = y_rI (q_wear L w x) m := by
  have a := s_170y (sp := sp) (ph := ph) (d := d + 1) (x := (x : Int)) hK (by omega) (by omega)
  have hw := u_w12 hK
  obtain ⟨h1, h2, h3, h4, h5, h6, h7, h8, h9, h10, h11, h12, h13, h14, h15, -⟩ := hK
  have s171 := s_171y (sp := sp) (ph := ph) (d := d + 3) (m := m) h15 hn
  have s75 := s_75 (sp := sp) (ph := ph) (d := d) (m := m) (a := 23) (b := y_mc m) (x := x) h15 (fun h hh => by have := hw h hh; omega) (by omega) h2 h9
  rw [y_C_162, y_E_162_0, a, e_bV, s171, e_bV, s75, e_bI]
theorem l_287 {x : Int} (hL : y_mI m 52 0 = (L : Int)) (hR : y_mI m 52 1 = (R : Int)) (hl1 : L ≤ 6) (hr1 : R ≤ 6) (hV : q_V m w) (h0 : -2147483648 ≤ x) (h1 : x < 2147483648) : y_V sp ph (d + 3) 287 [y_bo 11 0 49, y_bi x] m = if 0 ≤ x ∧ x < L + R then (if w = [] then y_rI 0 (y_sI (y_sI m 49 0 0) 49 0 2) else y_R sp ph (d + 2) 287 54 [some (y_bo 11 0 49), some (y_bi x)] [] (y_sI m 49 0 0)) else y_rI 0 (y_sI (y_sI m 49 0 0) 49 0 1) := by
  have hl := hV.2.1
  have e0 : y_mI (y_sI m 49 0 0) 49 0 = 0 := e_II
  have e13 : y_mI (y_sI m 49 0 0) 49 13 = w.length := by rw [e_II' (by omega)]; exact hV.1
  have t199 := t_199 (sp := sp) (ph := ph) (d := d + 1) (m := y_sI m 49 0 0)
  rw [e_II' (by omega), e_II' (by omega), hL, hR] at t199
  have t180 := t_180 (sp := sp) (ph := ph) (d := d + 1) (m := y_sI m 49 0 0) (v := x) (lo := 0) (hi := (L : Int) + (R : Int) - 1) h0 h1 (by omega) (by omega) (by omega) (by omega)
  have t179a := fun x => t_179a (sp := sp) (ph := ph) (d := d + 1) (m := y_sI m 49 0 0) e0 (x := x)
  have t179b := fun x h1 h2 => t_179b (sp := sp) (ph := ph) (d := d + 1) (m := y_sI m 49 0 0) e0 (x := x) h1 h2
  rw [y_C_287, y_E_287_0, t199, e_bI, t180, e_bI]
  by_cases c : 0 ≤ x ∧ x < L + R
  · rw [decide_eq_true (show 0 ≤ x ∧ x ≤ (L : Int) + (R : Int) - 1 by omega), if_pos (by decide), y_E_287_24, y_E_287_25, t179a 1, e_bI, if_neg (by decide), e13, if_pos c]
    by_cases hn : w = []
    · rw [if_neg (by rw [hn]; decide), y_E_287_45, t179b 2 (by omega) (by omega), e_bI, if_neg (by decide), y_E_287_52, if_pos hn]
    · have hp : 0 < w.length := List.length_pos_iff.mpr hn
      rw [if_pos (by rw [z_w_id (by omega) (by omega)]; omega), y_E_287_44, y_E_287_45, t179a 2, e_bI, if_pos (by decide), if_neg hn]
  · rw [decide_eq_false (by omega), if_neg (by decide), y_E_287_25, t179b 1 (by omega) (by omega), e_bI, if_pos (by decide), y_E_287_52, if_neg c]
theorem t_287 {x : Nat} (hU : u_R m L R A B t lw X w) (hn : w ≠ []) (hw : ∀ h ∈ w, h < L + R) (hx : x < L + R) : y_V sp ph (d + 4) 287 [y_bo 11 0 49, y_bi (x : Int)] m = y_rI (q_wear L w x) (y_sI m 49 0 0) := by
  obtain ⟨⟨c0, c1, c2, c3, c4, c6, c7, c8, c9, cB⟩, c5, -, hV⟩ := hU
  have hl1 := cB.1
  have hr1 := cB.2.1
  have e13 : y_mI (y_sI m 49 0 0) 49 13 = w.length := by rw [e_II' (by omega)]; exact hV.1
  have t286 := t_286 (sp := sp) (ph := ph) (d := d) (m := y_sI m 49 0 0) (a := 54) (n1 := 12) (w := w) (x := x) (L := L) (fun i hi => by rw [e_II' (by omega)]; exact hV.2.2 i hi) hn hV.2.1 (by omega) (fun h hh => by have := hw h hh; omega) (by omega) (by rw [e_II' (by omega)]; exact c0) hl1
  rw [l_287 (d := d + 1) c0 c1 hl1 hr1 hV (by omega) (by omega), if_pos (by omega), if_neg hn, y_E_287_54, e13, t286, e_bI]
end Wear
