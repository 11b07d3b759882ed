/-! ===== images, to the class ===== -/
section Image
variable {sp : Nat → Nat} {ph : Bool} {d : Nat} {m m' : y_m} {L a b : Nat} {w : List Nat} {P : List (Nat × Nat)} {K : List (List Nat)}
theorem s_64n (hW : q_W m b []) : y_V sp ph (d + 1) 64 [y_bo 8 0 a, y_bo 8 0 b] m = y_rV (y_sI m a 1 0) := by
  have e : y_mI m b 1 = 0 := hW.1
  rw [y_C_64, y_E_64_0, e, y_E_64_10, e_II, if_pos (by decide), y_E_64_37]
theorem s_64' (hac : a ≠ b) (hac' : a + 1 ≠ b) (hca : b + 1 ≠ a) (hW : q_W m b w) : ∃ m', y_V sp ph (d + 3) 64 [y_bo 8 0 a, y_bo 8 0 b] m = y_rV m' ∧ q_F (fun y k => (y = a ∧ k = 1) ∨ y = a + 1) m m' ∧ q_W m' a w := by
  by_cases hn : w = []
  · subst hn
    exact ⟨_, s_64n hW, q_F_sI (Or.inl ⟨rfl, rfl⟩), e_II, by show 0 ≤ 12; omega, fun i hi => absurd hi (Nat.not_lt_zero i)⟩
  · exact s_64 hac hac' hca hn hW
theorem l_80 (hab : a + 1 ≠ b + 1) : ∀ (k j : Nat) (m : y_m), j + k = 12 → (∀ i, i < j → y_mI m (a + 1) i = y_mI m (b + 1) i) → ∃ m', y_R sp ph (d + 1) 80 18 [some (y_bo 3 0 a), some (y_bo 3 0 b), some (y_bi (j : Int))] [] m = y_rV m' ∧ q_F (fun y _ => y = a + 1) m m' ∧ ∀ i, i < 12 → y_mI m' (a + 1) i = y_mI m (b + 1) i := by
  intro k
  induction k with
  | zero =>
    intro j m hj hF
    refine ⟨m, ?_, q_F_refl, fun i hi => hF i (by omega)⟩
    rw [y_E_80_18, if_pos (by rw [z_w_id (by omega) (by omega)]; omega), y_E_80_46]
  | succ k ih =>
    intro j m hj hF
    have s7 := s_7 (sp := sp) (ph := ph) (d := d) (m := m) (n := 12) (a := b + 1) (x := (j : Int)) (by omega) (by omega) (by omega)
    have s8 := s_8 (sp := sp) (ph := ph) (d := d) (n := 12) (a := a + 1) (x := (j : Int)) (v := y_mI m (b + 1) j) (m := m) (by omega) (by omega) (by omega)
    rw [Int.toNat_natCast] at s7 s8
    obtain ⟨m2, a1, a2, a3⟩ := ih (j + 1) (y_sI m (a + 1) j (y_mI m (b + 1) j)) (by omega) (fun i hi => by
      rw [e_II' (show ¬ (b + 1 = a + 1 ∧ i = j) by omega)]
      by_cases q : i = j
      · subst q; rw [e_II]
      · rw [e_II' (by omega)]; exact hF i (by omega))
    refine ⟨m2, ?_, q_F_trans (q_F_sI rfl) a2, fun i hi => by rw [a3 i hi, e_II' (by omega)]⟩
    rw [y_E_80_18, if_neg (by rw [z_w_id (by omega) (by omega)]; omega), s7, e_bI, s8, e_bV, show (j : Int) + 1 = ((j + 1 : Nat) : Int) by omega]
    exact a1
theorem s_80 (hab : a + 1 < b ∨ b + 1 < a) (hP : u_PC m b P) (hb : ∀ h ∈ u_fp P, h < 12) : ∃ m', y_V sp ph (d + 2) 80 [y_bo 3 0 a, y_bo 3 0 b] m = y_rV m' ∧ q_F (fun y k => (y = a ∧ (k = 1 ∨ k = 2)) ∨ y = a + 1) m m' ∧ u_PC m' a P := by
  obtain ⟨p1, ⟨s, p2, p3, p4⟩, p5⟩ := hP
  have e1 : y_mI (y_sI m a 1 (y_mI m b 1)) b 2 = y_mI m b 2 := e_II' (by omega)
  obtain ⟨m2, a1, a2, a3⟩ := l_80 (sp := sp) (ph := ph) (d := d) (a := a) (b := b) (by omega) 12 0 (y_sI (y_sI m a 1 (y_mI m b 1)) a 2 (y_mI m b 2)) (by omega) (fun i hi => absurd hi (Nat.not_lt_zero i))
  have a1' : y_R sp ph (d + 1) 80 18 [some (y_bo 3 0 a), some (y_bo 3 0 b), some (y_bi 0)] [] (y_sI (y_sI m a 1 (y_mI m b 1)) a 2 (y_mI m b 2)) = _ := a1
  have eb : ∀ i, i < 12 → y_mI m2 (a + 1) i = y_mI m (b + 1) i := fun i hi => by rw [a3 i hi, e_II' (by omega), e_II' (by omega)]
  refine ⟨m2, by rw [y_C_80, y_E_80_0, e1, a1'], q_F_trans (q_F_sI (by omega)) (q_F_trans (q_F_sI (by omega)) (q_F_mono a2 (fun y k r => Or.inr r))), ?_, ⟨s, p2, ?_, p4⟩, fun pr hp => ?_⟩
  · rw [q_F_I a2 a 1 (by omega), e_II' (by omega), e_II]; exact p1
  · rw [q_F_I a2 a 2 (by omega), e_II]; exact p3
  · rw [eb _ (hb _ (u_fp_mem.mpr ⟨pr, hp, Or.inl rfl⟩)), eb _ (hb _ (u_fp_mem.mpr ⟨pr, hp, Or.inr rfl⟩))]; exact p5 pr hp
theorem l_87 (hab : a + 5 ≠ b + 5) : ∀ (k j : Nat) (m : y_m), j + k = 48 → (∀ i, i < j → y_mI m (a + 5) i = y_mI m (b + 5) i) → ∃ m', y_R sp ph (d + 1) 87 32 [some (y_bo 5 0 a), some (y_bo 5 0 b), some (y_bi (j : Int))] [] m = y_rV m' ∧ q_F (fun y _ => y = a + 5) m m' ∧ ∀ i, i < 48 → y_mI m' (a + 5) i = y_mI m (b + 5) i := by
  intro k
  induction k with
  | zero =>
    intro j m hj hF
    have : j = 48 := by omega
    subst this
    refine ⟨m, ?_, q_F_refl, hF⟩
    rw [y_E_87_32, if_pos (by decide), y_E_87_63]
  | succ k ih =>
    intro j m hj hF
    have s7 := s_7 (sp := sp) (ph := ph) (d := d) (m := m) (n := 48) (a := b + 5) (x := (j : Int)) (by omega) (by omega) (by omega)
    have s8 := s_8 (sp := sp) (ph := ph) (d := d) (n := 48) (a := a + 5) (x := (j : Int)) (v := y_mI m (b + 5) j) (m := m) (by omega) (by omega) (by omega)
    rw [Int.toNat_natCast] at s7 s8
    obtain ⟨m2, a1, a2, a3⟩ := ih (j + 1) (y_sI m (a + 5) j (y_mI m (b + 5) j)) (by omega) (fun i hi => by
      rw [e_II' (show ¬ (b + 5 = a + 5 ∧ i = j) by omega)]
      by_cases q : i = j
      · subst q; rw [e_II]
      · rw [e_II' (by omega)]; exact hF i (by omega))
    refine ⟨m2, ?_, q_F_trans (q_F_sI rfl) a2, fun i hi => by rw [a3 i hi, e_II' (by omega)]⟩
    rw [y_E_87_32, if_neg (by rw [z_w_id (by omega) (by omega), z_w_id (by omega) (by omega)]; omega), s7, e_bI, s8, e_bV, show (j : Int) + 1 = ((j + 1 : Nat) : Int) by omega]
    exact a1
def u_sn6 (a y k : Nat) : Prop := (y = a ∧ k = 3) ∨ (y = a + 1 ∧ k = 1) ∨ y = a + 2 ∨ (y = a + 3 ∧ (k = 1 ∨ k = 2)) ∨ y = a + 4 ∨ y = a + 5
theorem s_87 (hab : a + 6 ≤ b ∨ b + 6 ≤ a) (hW : q_W m (b + 1) w) (hP : u_PC m (b + 3) P) (hb : ∀ h ∈ u_fp P, h < 12) (hK : u_KC m b L K) (h4 : K.length ≤ 4) : ∃ m', y_V sp ph (d + 4) 87 [y_bo 5 0 a, y_bo 5 0 b] m = y_rV m' ∧ q_F (u_sn6 a) m m' ∧ q_W m' (a + 1) w ∧ u_PC m' (a + 3) P ∧ u_KC m' a L K := by
  obtain ⟨m1, a1, a2, a3⟩ := s_64' (sp := sp) (ph := ph) (d := d) (a := a + 1) (b := b + 1) (by omega) (by omega) (by omega) hW
  have hP1 := u_PC_F (m' := m1) hP a2 (fun k => by omega) (fun k => by omega)
  obtain ⟨m2, b1, b2, b3⟩ := s_80 (sp := sp) (ph := ph) (d := d + 1) (a := a + 3) (b := b + 3) (by omega) hP1 hb
  have hK1 := u_KC_F (m' := m1) hK a2 (by omega) (fun k => by omega)
  have hK2 := u_KC_F (m' := m2) hK1 b2 (by omega) (fun k => by omega)
  obtain ⟨m3, c1, c2, c3⟩ := l_87 (sp := sp) (ph := ph) (d := d + 2) (a := a) (b := b) (by omega) 48 0 (y_sI m2 a 3 (y_mI m2 b 3)) (by omega) (fun i hi => absurd hi (Nat.not_lt_zero i))
  have c1' : y_R sp ph (d + 3) 87 32 [some (y_bo 5 0 a), some (y_bo 5 0 b), some (y_bi 0)] [] (y_sI m2 a 3 (y_mI m2 b 3)) = _ := c1
  have F3 : q_F (u_sn6 a) m2 m3 := q_F_trans (q_F_sI (by unfold u_sn6; omega)) (q_F_mono c2 (fun y k r => by unfold u_sn6; omega))
  have G3 : q_F (fun y k => (y = a ∧ k = 3) ∨ y = a + 5) m2 m3 := q_F_trans (q_F_sI (by omega)) (q_F_mono c2 (fun y k r => Or.inr r))
  refine ⟨m3, ?_, q_F_trans (q_F_mono a2 (fun y k r => by unfold u_sn6; omega)) (q_F_trans (q_F_mono b2 (fun y k r => by unfold u_sn6; omega)) F3), ?_, ?_, ?_, fun i hi h hh => ?_⟩
  · rw [y_C_87, y_E_87_0, a1, e_bV, b1, e_bV, c1']
  · exact q_W_F (q_W_F a3 b2 (fun r => by omega) (fun k r => by omega)) G3 (fun r => by omega) (fun k r => by omega)
  · exact u_PC_F b3 G3 (fun k => by omega) (fun k => by omega)
  · rw [q_F_I c2 a 3 (by omega), e_II]; exact hK2.1
  · rw [c3 _ (by omega), e_II' (by omega)]; exact hK2.2 i hi h hh
/-- an image, or what is there -/
def u_SC (m : y_m) (a L : Nat) (w : List Nat) (P : List (Nat × Nat)) (K : List (List Nat)) : Prop := q_W m (a + 1) w ∧ u_PC m (a + 3) P ∧ u_KC m a L K
theorem s_167f (h : y_mI m 0 11 = 3) : y_V sp ph (d + 1) 167 [y_bo 10 0 0] m = y_rI (-1) m := by
  rw [y_C_167, y_E_167_0, h, if_neg (by decide), if_pos (by decide), y_E_167_31]
theorem s_167 {n : Nat} (h : y_mI m 0 11 = (n : Int)) (hn : n < 3) (hS : u_SC m 22 L w P K) (hb : ∀ h ∈ u_fp P, h < 12) (h4 : K.length ≤ 4) : ∃ m', y_V sp ph (d + 5) 167 [y_bo 10 0 0] m = y_rI ((n : Int) + 1) m' ∧ q_F (fun y k => u_sn6 (31 + 6 * n) y k ∨ (y = 0 ∧ k = 11)) m m' ∧ y_mI m' 0 11 = ((n + 1 : Nat) : Int) ∧ u_SC m' (31 + 6 * n) L w P K := by
  obtain ⟨s1, s2, s3⟩ := hS
  obtain ⟨m1, a1, a2, a3, a4, a5⟩ := s_87 (sp := sp) (ph := ph) (d := d) (a := 31 + 6 * n) (b := 22) (by omega) s1 s2 hb s3 h4
  have e11 : y_mI m1 0 11 = n := by rw [q_F_I a2 0 11 (by unfold u_sn6; omega)]; exact h
  have F1 : q_F (fun y k => y = 0 ∧ k = 11) m1 (y_sI m1 0 11 ((n : Int) + 1)) := q_F_sI ⟨rfl, rfl⟩
  have zn : z_w (n : Int) = (n : Int) := z_w_id (by omega) (by omega)
  have z3 : z_w 3 = 3 := by decide
  refine ⟨_, ?_, q_F_trans (q_F_mono a2 (fun y k r => Or.inl r)) (q_F_mono F1 (fun y k r => Or.inr r)), by rw [e_II]; omega, q_W_F a3 F1 (fun r => by omega) (fun k r => by omega), u_PC_F a4 F1 (fun k r => by omega) (fun k r => by omega), u_KC_F a5 F1 (fun r => by omega) (fun k r => by omega)⟩
  rw [y_C_167, y_E_167_0, h, zn, if_neg (by omega), if_neg (by rw [z3]; omega), e_g ⟨by omega, by omega⟩, y_E_167_33, h, e_g ⟨by omega, by omega⟩, Int.toNat_natCast, a1, e_bV, e11, e_II]
theorem s_168f (h : y_mI m 0 11 = 0) : y_V sp ph (d + 1) 168 [y_bo 10 0 0] m = y_rI (-1) m := by
  rw [y_C_168, y_E_168_0, h, if_pos (by decide), y_E_168_29]
theorem s_168 {n : Nat} (h : y_mI m 0 11 = ((n + 1 : Nat) : Int)) (hn : n < 3) (hS : u_SC m (31 + 6 * n) L w P K) (hb : ∀ h ∈ u_fp P, h < 12) (h4 : K.length ≤ 4) : ∃ m', y_V sp ph (d + 5) 168 [y_bo 10 0 0] m = y_rI (n : Int) m' ∧ q_F (fun y k => u_sn6 22 y k ∨ (y = 0 ∧ k = 11)) m m' ∧ y_mI m' 0 11 = (n : Int) ∧ u_SC m' 22 L w P K := by
  obtain ⟨s1, s2, s3⟩ := hS
  obtain ⟨m1, a1, a2, a3, a4, a5⟩ := s_87 (sp := sp) (ph := ph) (d := d) (a := 22) (b := 31 + 6 * n) (by omega) s1 s2 hb s3 h4
  have F1 : q_F (fun y k => y = 0 ∧ k = 11) m1 (y_sI m1 0 11 (n : Int)) := q_F_sI ⟨rfl, rfl⟩
  have zn : z_w (n : Int) = (n : Int) := z_w_id (by omega) (by omega)
  have z3 : z_w 3 = 3 := by decide
  have en : ((n + 1 : Nat) : Int) - 1 = (n : Int) := by omega
  refine ⟨_, ?_, q_F_trans (q_F_mono a2 (fun y k r => Or.inl r)) (q_F_mono F1 (fun y k r => Or.inr r)), e_II, q_W_F a3 F1 (fun r => by omega) (fun k r => by omega), u_PC_F a4 F1 (fun k r => by omega) (fun k r => by omega), u_KC_F a5 F1 (fun r => by omega) (fun k r => by omega)⟩
  rw [y_C_168, y_E_168_0, h, en, zn, if_neg (by omega), if_neg (by rw [z3]; omega), e_g ⟨by omega, by omega⟩, y_E_168_31, e_g ⟨by omega, by omega⟩, Int.toNat_natCast, a1, e_bV, e_II]
end Image
