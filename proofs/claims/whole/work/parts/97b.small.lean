/-! ===== told, fault, sums, at, judge, span ===== -/
def u_tl (L R A B t lw X : Nat) (w : List Nat) (k : Nat) : Nat := match k with
  | 0 => L
  | 1 => R
  | 2 => A
  | 3 => B
  | 4 => lw
  | 5 => X
  | 6 => t
  | _ => w.length
section Small
variable {sp : Nat → Nat} {ph : Bool} {d : Nat} {m m' : y_m} {L R A B t lw X a b : Nat} {w : List Nat} {P : List (Nat × Nat)}
theorem s_140n {x : Int} (h0 : -2147483648 ≤ x) (h1 : x < 2147483648) (hx : ¬ (0 ≤ x ∧ x ≤ 7)) : y_V sp true (d + 1) 140 [y_bo 10 0 0, y_bi x] m = some (.inr 0, y_tm m) := by
  rw [y_C_140, y_E_140_0_d _ _ _ _ (by rw [z_w_id h0 h1]; omega), y_E_140_115]; rfl
theorem s_140 {k : Nat} (hK : c_K m L R A B t lw X w) (hk : k ≤ 7) : y_V sp ph (d + 1) 140 [y_bo 10 0 0, y_bi (k : Int)] m = y_rI (u_tl L R A B t lw X w k : Nat) m := by
  obtain ⟨h1, h2, h3, h4, h5, h6, h7, h8, -, -, -, -, -, -, h15, -⟩ := hK
  rw [y_C_140]
  rcases (show k = 0 ∨ k = 1 ∨ k = 2 ∨ k = 3 ∨ k = 4 ∨ k = 5 ∨ k = 6 ∨ k = 7 by omega) with rfl | rfl | rfl | rfl | rfl | rfl | rfl | rfl
  · rw [y_E_140_0_0 _ _ _ _ (by decide), y_E_140_48, h2]; rfl
  · rw [y_E_140_0_1 _ _ _ _ (by decide), y_E_140_56, h3]; rfl
  · rw [y_E_140_0_2 _ _ _ _ (by decide), y_E_140_64, h4]; rfl
  · rw [y_E_140_0_3 _ _ _ _ (by decide), y_E_140_72, h5]; rfl
  · rw [y_E_140_0_4 _ _ _ _ (by decide), y_E_140_80, h7]; rfl
  · rw [y_E_140_0_5 _ _ _ _ (by decide), y_E_140_88, h8]; rfl
  · rw [y_E_140_0_6 _ _ _ _ (by decide), y_E_140_96, h6]; rfl
  · rw [y_E_140_0_7 _ _ _ _ (by decide), y_E_140_104, h15.1]; rfl
theorem t_198n {x : Int} (h0 : -2147483648 ≤ x) (h1 : x < 2147483648) (hx : ¬ (0 ≤ x ∧ x ≤ 7)) : y_V sp ph (d + 2) 198 [y_bo 11 0 49, y_bi x] m = y_rI 0 (y_sI (y_sI m 49 0 0) 49 0 1) := by
  have e0 : y_mI (y_sI m 49 0 0) 49 0 = 0 := e_II
  have t180 := t_180 (sp := sp) (ph := ph) (d := d) (m := y_sI m 49 0 0) (v := x) (lo := 0) (hi := 7) h0 h1 (by omega) (by omega) (by omega) (by omega)
  have t179 := t_179b (sp := sp) (ph := ph) (d := d) (m := y_sI m 49 0 0) e0 (x := 1) (by omega) (by omega)
  rw [y_C_198, y_E_198_0, t180, e_bI, decide_eq_false hx, if_neg (by decide), y_E_198_21, t179, e_bI, if_neg (by decide)]
theorem t_198 {k : Nat} (hU : u_R m L R A B t lw X w) (hk : k ≤ 7) : y_V sp ph (d + 2) 198 [y_bo 11 0 49, y_bi (k : Int)] m = y_rI (u_tl L R A B t lw X w k : Nat) (y_sI m 49 0 0) := by
  obtain ⟨⟨c0, c1, c2, c3, c4, c6, c7, c8, c9, cB⟩, c5, -, hV⟩ := hU
  have e0 : y_mI (y_sI m 49 0 0) 49 0 = 0 := e_II
  have e52 : ∀ j, y_mI (y_sI m 49 0 0) 52 j = y_mI m 52 j := fun j => e_II' (by omega)
  have e13 : y_mI (y_sI m 49 0 0) 49 13 = w.length := by rw [e_II' (by omega)]; exact hV.1
  have t180 := t_180 (sp := sp) (ph := ph) (d := d) (m := y_sI m 49 0 0) (v := (k : Int)) (lo := 0) (hi := 7) (by omega) (by omega) (by omega) (by omega) (by omega) (by omega)
  have t179 := t_179a (sp := sp) (ph := ph) (d := d) (m := y_sI m 49 0 0) e0 (x := 1)
  rw [y_C_198, y_E_198_0, t180, e_bI, decide_eq_true (show (0 : Int) ≤ (k : Int) ∧ (k : Int) ≤ 7 by omega), if_pos (by decide), y_E_198_20, y_E_198_21, t179, e_bI, if_pos (by decide), y_E_198_30]
  by_cases c : k = 7
  · rw [if_pos (by rw [z_w_id (by omega) (by omega)]; omega), y_E_198_45, e13, y_E_198_49, c]; rfl
  · rw [if_neg (by rw [z_w_id (by omega) (by omega)]; omega), e_g ⟨by omega, by omega⟩, Int.toNat_natCast, e52, y_E_198_49]
    rcases (show k = 0 ∨ k = 1 ∨ k = 2 ∨ k = 3 ∨ k = 4 ∨ k = 5 ∨ k = 6 by omega) with rfl | rfl | rfl | rfl | rfl | rfl | rfl
    · rw [c0]; rfl
    · rw [c1]; rfl
    · rw [c2]; rfl
    · rw [c3]; rfl
    · rw [c4]; rfl
    · rw [c5]; rfl
    · rw [c6]; rfl
theorem s_139 : y_V sp ph (d + 1) 139 [y_bo 10 0 0] m = y_rI (y_mI m 0 12) m := by rw [y_C_139, y_E_139_0]
theorem t_197 : y_V sp ph (d + 1) 197 [y_bo 11 0 49] m = y_rI (y_mI m 49 3) (y_sI m 49 0 0) := by rw [y_C_197, y_E_197_0, e_II' (by omega)]
/-- the four sums -/
def u_sm (a b c e x : Int) : Int := if x = 0 then a else if x = 1 then b else if x = 2 then c else if x = 3 then e else -1
theorem s_169 {x : Int} (h0 : -2147483648 ≤ x) (h1 : x < 2147483648) : y_V sp ph (d + 2) 169 [y_bo 10 0 0, y_bi x] m = y_rI (u_sm (y_mI m 22 3) (y_mI m 25 1) (y_mI m 0 11) (y_mI m 1 1) x) m := by
  unfold u_sm
  rw [y_C_169]
  by_cases c0 : x = 0
  · rw [if_pos c0, y_E_169_0_0 _ _ _ _ (by rw [c0]; decide), y_E_169_32]
  by_cases c1 : x = 1
  · rw [if_neg c0, if_pos c1, y_E_169_0_1 _ _ _ _ (by rw [c1]; decide), y_E_169_40]
  by_cases c2 : x = 2
  · rw [if_neg c0, if_neg c1, if_pos c2, y_E_169_0_2 _ _ _ _ (by rw [c2]; decide), y_E_169_51]
  by_cases c3 : x = 3
  · have s14 : y_V sp ph (d + 1) 14 [y_bo 6 0 1] m = y_rI (y_mI m 1 1) m := by rw [y_C_14, y_E_14_0]
    rw [if_neg c0, if_neg c1, if_neg c2, if_pos c3, y_E_169_0_3 _ _ _ _ (by rw [c3]; decide), y_E_169_56, s14, e_bI]
  · rw [if_neg c0, if_neg c1, if_neg c2, if_neg c3, y_E_169_0_d _ _ _ _ (by rw [z_w_id h0 h1]; omega), y_E_169_64]
theorem t_297 {x : Int} (h0 : -2147483648 ≤ x) (h1 : x < 2147483648) : y_V sp ph (d + 1) 297 [y_bo 11 0 49, y_bi x] m = y_rI (u_sm (y_mI m 49 15) (y_mI m 49 14) (y_mI m 49 16) (y_mI m 49 1) x) (y_sI m 49 0 0) := by
  unfold u_sm
  rw [y_C_297]
  by_cases c0 : x = 0
  · rw [if_pos c0, y_E_297_0_0 _ _ _ _ (by rw [c0]; decide), y_E_297_36, e_II' (by omega)]
  by_cases c1 : x = 1
  · rw [if_neg c0, if_pos c1, y_E_297_0_1 _ _ _ _ (by rw [c1]; decide), y_E_297_41, e_II' (by omega)]
  by_cases c2 : x = 2
  · rw [if_neg c0, if_neg c1, if_pos c2, y_E_297_0_2 _ _ _ _ (by rw [c2]; decide), y_E_297_46, e_II' (by omega)]
  by_cases c3 : x = 3
  · rw [if_neg c0, if_neg c1, if_neg c2, if_pos c3, y_E_297_0_3 _ _ _ _ (by rw [c3]; decide), y_E_297_51, e_II' (by omega)]
  · rw [if_neg c0, if_neg c1, if_neg c2, if_neg c3, y_E_297_0_d _ _ _ _ (by rw [z_w_id h0 h1]; omega), y_E_297_56]
def u_at (w : List Nat) (x : Int) : Int := if 0 ≤ x ∧ x < w.length then (w.getD x.toNat 0 : Nat) else -1
theorem s_142 {x : Int} (hW : q_W m 23 w) (h0 : -2147483648 ≤ x) (h1 : x < 2147483648) : y_V sp ph (d + 3) 142 [y_bo 10 0 0, y_bi x] m = y_rI (u_at w x) m := by
  have hl := hW.2.1
  unfold u_at
  rw [y_C_142, y_E_142_0, hW.1, z_w_id h0 h1]
  by_cases c : x < 0
  · rw [if_pos c, y_E_142_32, y_E_142_33, if_neg (by omega)]
  · by_cases c2 : (w.length : Int) ≤ x
    · rw [if_neg c, if_pos (by rw [z_w_id (by omega) (by omega)]; exact c2), y_E_142_32, y_E_142_33, if_neg (by omega)]
    · have hn : w ≠ [] := fun r => by rw [r] at c2; exact c2 (by show (0 : Int) ≤ x; omega)
      have s65 := s_65 (sp := sp) (ph := ph) (d := d) (i := x) hW hn (by omega) (by omega)
      obtain ⟨i, rfl⟩ : ∃ i : Nat, x = i := ⟨x.toNat, by omega⟩
      rw [if_neg c, if_neg (by rw [z_w_id (by omega) (by omega)]; exact c2), s65, e_bI, y_E_142_33, if_pos (by omega), q_at_nat (by omega), Int.toNat_natCast]
theorem t_224 {x : Int} (hV : q_V m w) (h0 : -2147483648 ≤ x) (h1 : x < 2147483648) : y_V sp ph (d + 2) 224 [y_bo 11 0 49, y_bi x] m = y_rI (u_at w x) (y_sI m 49 0 0) := by
  have hl := hV.2.1
  have e13 : y_mI (y_sI m 49 0 0) 49 13 = w.length := by rw [e_II' (by omega)]; exact hV.1
  have t180 := t_180 (sp := sp) (ph := ph) (d := d) (m := y_sI m 49 0 0) (v := x) (lo := 0) (hi := (w.length : Int) - 1) h0 h1 (by omega) (by omega) (by omega) (by omega)
  unfold u_at
  rw [y_C_224, y_E_224_0, e13, t180, e_bI]
  by_cases c : 0 ≤ x ∧ x < w.length
  · obtain ⟨i, rfl⟩ : ∃ i : Nat, x = i := ⟨x.toNat, by omega⟩
    rw [decide_eq_true (show 0 ≤ (i : Int) ∧ (i : Int) ≤ (w.length : Int) - 1 by omega), if_neg (by decide), e_g ⟨by omega, by omega⟩, y_E_224_29, Int.toNat_natCast, e_II' (by omega), hV.2.2 i (by omega), if_pos c]
  · rw [decide_eq_false (show ¬ (0 ≤ x ∧ x ≤ (w.length : Int) - 1) by omega), if_pos (by decide), y_E_224_28, y_E_224_29, if_neg c]
theorem u_w12 (hK : c_K m L R A B t lw X w) : ∀ h ∈ w, h < L + R := fun h hh => by
  have := hK.2.2.2.2.2.2.2.2.2.2.2.2.2.2.2.1 h hh
  rw [c_wh_bit, Bool.and_eq_true, decide_eq_true_iff] at this
  exact this.1
theorem s_143n (hK : c_K m L R A B t lw X []) : y_V sp true (d + 2) 143 [y_bo 10 0 0] m = some (.inr 2, y_tm m) := by
  have s171 := s_171n (sp := sp) (d := d) (m := m) hK.2.2.2.2.2.2.2.2.2.2.2.2.2.2.1
  rw [y_C_143, y_E_143_0, s171]; rfl
theorem s_143 (hK : c_K m L R A B t lw X w) (hn : w ≠ []) : y_V sp ph (d + 5) 143 [y_bo 10 0 0] m = y_rI (q_judge L lw w 0 w.length) m := by
  have hw := u_w12 hK
  obtain ⟨h1, h2, h3, h4, h5, h6, h7, h8, h9, h10, h11, h12, h13, h14, h15, -⟩ := hK
  have s171 := s_171y (sp := sp) (ph := ph) (d := d + 3) (m := m) h15 hn
  have s72 := s_72 (sp := sp) (ph := ph) (d := d) (m := m) (a := 23) (b := y_mc m) h15 hn (fun h hh => by have := hw h hh; omega) h2 h9 h7 h14
  rw [y_C_143, y_E_143_0, s171, e_bV, s72, e_bI]
theorem t_231n (hV : q_V m []) : y_V sp ph (d + 3) 231 [y_bo 11 0 49] m = y_rI 0 (y_sI (y_sI m 49 0 0) 49 0 1) := by
  have hV' : q_V (y_sI m 49 0 0) [] := q_V_F hV (q_F_sI (S := fun a k => a = 49 ∧ k = 0) ⟨rfl, rfl⟩) (fun a k r => by omega)
  have t230 := t_230b (sp := sp) (ph := ph) (d := d) (m := y_sI m 49 0 0) e_II hV'
  rw [y_C_231, y_E_231_0, t230, e_bI, if_neg (by decide)]
theorem t_231 (hU : u_R m L R A B t lw X w) (hn : w ≠ []) (hw : ∀ h ∈ w, h < L + R) : y_V sp ph (d + 5) 231 [y_bo 11 0 49] m = y_rI (q_judge L lw w 0 w.length) (y_sI m 49 0 0) := by
  obtain ⟨⟨c0, c1, c2, c3, c4, c6, c7, c8, c9, cB⟩, c5, -, hV⟩ := hU
  have hl1 := cB.1
  have hr1 := cB.2.1
  have hV' : q_V (y_sI m 49 0 0) w := q_V_F hV (q_F_sI (S := fun a k => a = 49 ∧ k = 0) ⟨rfl, rfl⟩) (fun a k r => by omega)
  have t230 := t_230a (sp := sp) (ph := ph) (d := d + 2) (m := y_sI m 49 0 0) e_II hV' hn
  have e52 : ∀ j, y_mI (y_sI m 49 0 0) 52 j = y_mI m 52 j := fun j => e_II' (by omega)
  have t229 := t_229 (sp := sp) (ph := ph) (d := d) (m := y_sI m 49 0 0) hV' hn (fun h hh => by have := hw h hh; omega) (by rw [e52]; exact c0) hl1 (by rw [e52]; exact c4) c7
  rw [y_C_231, y_E_231_0, t230, e_bI, if_pos (by decide), y_E_231_14, t229, e_bI]
end Small
