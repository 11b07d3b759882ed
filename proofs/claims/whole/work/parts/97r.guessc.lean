/-! ===== within, guess: the class ===== -/
def u_wW (a k : Nat) : Prop := (a = 13 ∧ (k = 2 ∨ k = 3 ∨ k = 4)) ∨ (a = 14 ∧ k = 1) ∨ a = 15 ∨ (a = 16 ∧ (k = 1 ∨ k = 2)) ∨ a = 17
section Guess
variable {sp : Nat → Nat} {ph : Bool} {d : Nat} {m m' : y_m} {L R A B t lw X n b : Nat} {w : List Nat} {P : List (Nat × Nat)} {one : Bool}
theorem u_PC_bits {a : Nat} (hP : u_PC m a P) (hb : ∀ h ∈ u_fp P, h < 12) : y_mI m a 2 = (q_bits (u_fp P) : Int) ∧ q_bits (u_fp P) < 4096 := by
  obtain ⟨p1, ⟨s, p2, p3, p4⟩, p5⟩ := hP
  have e : s = q_bits (u_fp P) := Nat.eq_of_testBit_eq (fun i => by rw [p4, q_bits_bit])
  rw [← e]
  exact ⟨p3, p2⟩
theorem s_126 {S : Nat} (hS : S < 4096) (hS0 : S ≠ 0) : y_V sp ph (d + 3) 126 [y_bo 7 0 13, y_bi (S : Int)] m = y_rI (w_rm S (n_low S) : Int) (y_sI (y_sI (y_sI (y_sI m 13 3 0) 13 4 0) 14 1 (n_pop S : Int)) 15 0 (n_low S : Int)) := by
  have lo := w_low hS (by omega)
  have s1 := s_1 (sp := sp) (ph := ph) (d := d + 1) (m := y_sI (y_sI m 13 3 0) 13 4 0) hS
  have s0 := s_0 (sp := sp) (ph := ph) (d := d + 1) (m := y_sI (y_sI (y_sI m 13 3 0) 13 4 0) 14 1 (n_pop S : Int)) hS (by omega)
  have s66 := s_66 (sp := sp) (ph := ph) (d := d) (m := y_sI (y_sI (y_sI m 13 3 0) 13 4 0) 14 1 (n_pop S : Int)) (a := 14) (i := 0) (x := (n_low S : Int)) (by omega) (by omega)
  have er : z_iand (S : Int) ((S : Int) - 1) = (w_rm S (n_low S) : Int) := by
    rw [show (S : Int) - 1 = ((S - 1 : Nat) : Int) by omega, n_iand (by omega) (by omega), lo.1]
  rw [y_C_126, y_E_126_0, s1, e_bI, s0, e_bI, s66, e_bV, er]; rfl
/-- the walk, made ready -/
theorem u_xwk_new {S : Nat} {pu : Int} {m1 : y_m} (hb : b ≠ 13 ∧ b ≠ 14 ∧ b ≠ 15 ∧ b ≠ 16 ∧ b ≠ 17) (hL : y_mI m1 b 0 = (L : Int)) (h6 : L ≤ 6) (hw : y_mI m1 b 5 = (lw : Int)) (h2 : lw ≤ 2) (hP : u_PC m1 16 P) (hbP : ∀ h ∈ u_fp P, h < 12) (hl : P.length ≤ 6) (hpu : y_mI m1 13 2 = pu) (hpu2 : pu = 0 ∨ pu = 1 ∨ pu = 2) (hS : S < 4096) (hp : 1 ≤ n_pop S) : u_xwk (y_sI (y_sI (y_sI (y_sI m1 13 3 0) 13 4 0) 14 1 (n_pop S : Int)) 15 0 (n_low S : Int)) b L lw (n_pop S) P pu ∧ u_wb (y_sI (y_sI (y_sI (y_sI m1 13 3 0) 13 4 0) 14 1 (n_pop S : Int)) 15 0 (n_low S : Int)) (n_pop S) [n_low S] := by
  have hF : q_F (fun a k => (a = 13 ∧ (k = 3 ∨ k = 4)) ∨ (a = 14 ∧ k = 1) ∨ (a = 15 ∧ k = 0)) m1 (y_sI (y_sI (y_sI (y_sI m1 13 3 0) 13 4 0) 14 1 (n_pop S : Int)) 15 0 (n_low S : Int)) := q_F_trans (q_F_trans (q_F_trans (q_F_sI (by omega)) (q_F_sI (by omega))) (q_F_sI (by omega))) (q_F_sI (by omega))
  have hp12 := n_pop_le hS
  obtain ⟨p1, ⟨s, p2, p3, p4⟩, p5⟩ := hP
  refine ⟨⟨by rw [q_F_I hF b 0 (by omega)]; exact hL, h6, by rw [q_F_I hF b 5 (by omega)]; exact hw, h2, ⟨by rw [q_F_I hF 16 1 (by omega)]; exact p1, ⟨s, p2, by rw [q_F_I hF 16 2 (by omega)]; exact p3, p4⟩, fun pr hp => ⟨by rw [q_F_I hF (16 + 1) _ (by omega)]; exact (p5 pr hp).1, by rw [q_F_I hF (16 + 1) _ (by omega)]; exact (p5 pr hp).2⟩⟩, hbP, hl, by rw [q_F_I hF 13 2 (by omega)]; exact hpu, ⟨hb.1, hb.2.2.1⟩, hpu2⟩, ?_, hp12, by simp; omega, fun i hi => ?_⟩
  · rw [e_II' (by omega), e_II]
  · rw [List.length_singleton] at hi
    have : i = 0 := by omega
    subst this
    rw [e_II]; rfl
theorem u_P2 (hk : u_Pk L R t P) (h6 : L ≤ 6) (hR : R ≤ 6) : (∀ h ∈ u_fp P, h < 12) ∧ n_pop (q_bits (u_fp P)) = 2 * P.length ∧ ∀ h, (q_bits (u_fp P)).testBit h = true → h < L + R := by
  have hb : ∀ h ∈ u_fp P, h < 12 := fun h hh => by have := (hk.2.2 h hh).1; omega
  refine ⟨hb, by rw [n_pop_bits hk.2.1 hb, u_fp_len], fun h hh => ?_⟩
  rw [q_bits_bit] at hh
  exact (hk.2.2 h (of_decide_eq_true hh)).1
/-- rounds within a picture -/
def u_xwi (L lw : Nat) (P : List (Nat × Nat)) : List (List Nat) := u_go L lw P false (2 * P.length - 1) [n_low (q_bits (u_fp P))] (w_rm (q_bits (u_fp P)) (n_low (q_bits (u_fp P)))) none false
def u_gu (L lw : Nat) (P : List (Nat × Nat)) : List (List Nat) := u_go L lw P true (2 * P.length - 1) [n_low (q_bits (u_fp P))] (w_rm (q_bits (u_fp P)) (n_low (q_bits (u_fp P)))) none true
theorem s_124 (hK : c_K m L R A B t lw X w) (hP : u_PC m 25 P) (hk : u_Pk L R t P) : ∃ m', y_V sp ph (d + 20) 124 [y_bo 7 0 13, y_bo 0 0 (y_mc m), y_bo 3 0 25] m = y_rI (if P.length < 2 then 0 else ((u_xwi L lw P).length : Int)) m' ∧ q_F u_wW m m' := by
  obtain ⟨hb, hpop, hin⟩ := u_P2 hk hK.l6 hK.r6
  have hl := hk.1
  rw [y_C_124, y_E_124_0, hP.1]
  by_cases c : P.length < 2
  · rw [if_neg (by rw [z_w_id (by omega) (by omega)]; omega), if_pos c]
    exact ⟨m, rfl, q_F_refl⟩
  · rw [if_pos (by rw [z_w_id (by omega) (by omega)]; omega), if_neg c, y_E_124_12]
    obtain ⟨m1, a1, a2, a3⟩ := s_80 (sp := sp) (ph := ph) (d := d + 17) (a := 16) (b := 25) (by omega) hP hb
    have F1 : q_F u_wW m m1 := q_F_mono a2 (fun a k q => by unfold u_wW; omega)
    have F2 : q_F u_wW m (y_sI m1 13 2 0) := q_F_trans F1 (q_F_sI (by unfold u_wW; omega))
    have FS : q_F (fun a k => a = 13 ∧ k = 2) m1 (y_sI m1 13 2 0) := q_F_sI ⟨rfl, rfl⟩
    obtain ⟨eS, hS⟩ := u_PC_bits hP hb
    have eG : u_xwi L lw P = u_go L lw P false (2 * P.length - 1) [n_low (q_bits (u_fp P))] (w_rm (q_bits (u_fp P)) (n_low (q_bits (u_fp P)))) none false := rfl
    rw [eG]
    generalize q_bits (u_fp P) = S at *
    have hbt := hK.b
    have e25 : y_mI (y_sI m1 13 2 0) 25 2 = (S : Int) := by rw [q_F_I F2 25 2 (by unfold u_wW; omega)]; exact eS
    have hS0 : S ≠ 0 := fun q => by rw [q] at hpop; have : n_pop 0 = 0 := by decide
                                    omega
    have s126 := s_126 (sp := sp) (ph := ph) (d := d + 16) (m := y_sI m1 13 2 0) hS hS0
    have lo := w_low hS (by omega)
    have hpr := n_pop_rm hS lo.2.2.1
    have a3' : u_PC (y_sI m1 13 2 0) 16 P := by
      obtain ⟨p1, ⟨s, p2, p3, p4⟩, p5⟩ := a3
      exact ⟨by rw [e_II' (by omega)]; exact p1, ⟨s, p2, by rw [e_II' (by omega)]; exact p3, p4⟩, fun pr hp => ⟨by rw [e_II' (by omega)]; exact (p5 pr hp).1, by rw [e_II' (by omega)]; exact (p5 pr hp).2⟩⟩
    have ec : ∀ k, y_mI (y_sI m1 13 2 0) (y_mc m) k = y_mI m (y_mc m) k := fun k => q_F_I F2 _ k (by unfold u_wW; omega)
    obtain ⟨k1, k2⟩ := u_xwk_new (S := S) (m1 := y_sI m1 13 2 0) (b := y_mc m) (L := L) (lw := lw) (P := P) (pu := 0) (by omega) (by rw [ec]; exact hK.eL) hK.l6 (by rw [ec]; exact hK.ew) hK.w2 a3' hb hl e_II (Or.inl rfl) hS (by omega)
    have F3 : q_F u_wW m (y_sI (y_sI (y_sI (y_sI (y_sI m1 13 2 0) 13 3 0) 13 4 0) 14 1 (n_pop S : Int)) 15 0 (n_low S : Int)) := q_F_trans (q_F_trans (q_F_trans (q_F_trans F2 (q_F_sI (by unfold u_wW; omega))) (q_F_sI (by unfold u_wW; omega))) (q_F_sI (by unfold u_wW; omega))) (q_F_sI (by unfold u_wW; omega))
    have e3 : y_mI (y_sI (y_sI (y_sI (y_sI (y_sI m1 13 2 0) 13 3 0) 13 4 0) 14 1 (n_pop S : Int)) 15 0 (n_low S : Int)) 13 3 = 0 := by
      rw [e_II' (by omega), e_II' (by omega), e_II' (by omega), e_II]
    generalize y_sI (y_sI (y_sI (y_sI (y_sI m1 13 2 0) 13 3 0) 13 4 0) 14 1 (n_pop S : Int)) 15 0 (n_low S : Int) = M at *
    rw [hpop] at k1 k2
    obtain ⟨m2, b1, b2, b3, b4⟩ := l_128c (sp := sp) (ph := ph) (d := d + 19 - 6 - (2 * P.length - 1)) (b := y_mc m) (L := L) (lw := lw) (n := 2 * P.length) (P := P) (pu := 0) (si := fun _ => 0) (c0 := 12) (by omega) (Or.inl rfl) (fun q => by omega) (by omega) (by omega) (2 * P.length - 1) [n_low S] (w_rm S (n_low S)) none false M (by simp; omega) (by simp) (by omega) (Nat.lt_of_le_of_lt (w_rm_le _ _) hS) (fun z hz => by rw [w_rm_bit, Bool.and_eq_true] at hz; have := hin z hz.1; have := hK.l6; have := hK.r6; omega) (fun x hx => by rw [List.mem_singleton] at hx; omega) (fun _ => by simp; omega) k1 k2
    rw [show d + 19 - 6 - (2 * P.length - 1) + 6 + (2 * P.length - 1) = d + 19 by omega] at b1
    have b1' : y_V sp ph (d + 19) 128 [y_bo 7 0 13, y_bo 0 0 (y_mc m), y_bi 1, y_bi (w_rm S (n_low S) : Int), y_bi (-1), y_bi 0] M = y_rV m2 := b1
    refine ⟨m2, ?_, q_F_trans F3 (q_F_mono b2 (fun a k q => by unfold u_wF at q; unfold u_wW; omega))⟩
    rw [a1, e_bV, e25, s126, e_bI, b1', e_bV, b3, e3]
    refine congrArg (fun z => y_rI z m2) ?_
    rw [Int.zero_add]; rfl
theorem s_158 (hK : c_K m L R A B t lw X w) (hP : u_PC m 25 P) (hk : u_Pk L R t P) : ∃ m', y_V sp ph (d + 21) 158 [y_bo 10 0 0] m = y_rI (if P.length < 2 then 0 else ((u_xwi L lw P).length : Int)) m' ∧ q_F u_wW m m' := by
  obtain ⟨m1, a1, a2⟩ := s_124 (sp := sp) (ph := ph) (d := d) hK hP hk
  exact ⟨m1, by rw [y_C_158, y_E_158_0, a1, e_bI], a2⟩
theorem s_125 (hK : c_K m L R A B t lw X w) (hP : u_PC m 25 P) (hk : u_Pk L R t P) : ∃ m', q_F (fun a k => u_wW a k ∨ (a = 20 ∧ k = 1) ∨ a = 21) m m' ∧ (((P.length < 2 ∨ u_gu L lw P = []) ∧ y_V sp ph (d + 20) 125 [y_bo 7 0 13, y_bo 0 0 (y_mc m), y_bo 3 0 25, y_bo 8 0 20] m = y_rI 0 m') ∨ (2 ≤ P.length ∧ ∃ v l, u_gu L lw P = v :: l ∧ v.length = 2 * P.length ∧ q_W m' 20 v ∧ y_V sp ph (d + 20) 125 [y_bo 7 0 13, y_bo 0 0 (y_mc m), y_bo 3 0 25, y_bo 8 0 20] m = y_rI 1 m')) := by
  obtain ⟨hb, hpop, hin⟩ := u_P2 hk hK.l6 hK.r6
  have hl := hk.1
  rw [y_C_125, y_E_125_0, hP.1]
  by_cases c : P.length < 2
  · rw [if_neg (by rw [z_w_id (by omega) (by omega)]; omega)]
    exact ⟨m, q_F_refl, Or.inl ⟨Or.inl c, rfl⟩⟩
  · rw [if_pos (by rw [z_w_id (by omega) (by omega)]; omega), y_E_125_12]
    obtain ⟨m1, a1, a2, a3⟩ := s_80 (sp := sp) (ph := ph) (d := d + 17) (a := 16) (b := 25) (by omega) hP hb
    have F1 : q_F u_wW m m1 := q_F_mono a2 (fun a k q => by unfold u_wW; omega)
    have F2 : q_F u_wW m (y_sI m1 13 2 1) := q_F_trans F1 (q_F_sI (by unfold u_wW; omega))
    obtain ⟨eS, hS⟩ := u_PC_bits hP hb
    have eG : u_gu L lw P = u_go L lw P true (2 * P.length - 1) [n_low (q_bits (u_fp P))] (w_rm (q_bits (u_fp P)) (n_low (q_bits (u_fp P)))) none true := rfl
    rw [eG]
    generalize q_bits (u_fp P) = S at *
    have hbt := hK.b
    have e25 : y_mI (y_sI m1 13 2 1) 25 2 = (S : Int) := by rw [q_F_I F2 25 2 (by unfold u_wW; omega)]; exact eS
    have hS0 : S ≠ 0 := fun q => by rw [q] at hpop; have : n_pop 0 = 0 := by decide
                                    omega
    have s126 := s_126 (sp := sp) (ph := ph) (d := d + 16) (m := y_sI m1 13 2 1) hS hS0
    have lo := w_low hS (by omega)
    have hpr := n_pop_rm hS lo.2.2.1
    have a3' : u_PC (y_sI m1 13 2 1) 16 P := by
      obtain ⟨p1, ⟨s, p2, p3, p4⟩, p5⟩ := a3
      exact ⟨by rw [e_II' (by omega)]; exact p1, ⟨s, p2, by rw [e_II' (by omega)]; exact p3, p4⟩, fun pr hp => ⟨by rw [e_II' (by omega)]; exact (p5 pr hp).1, by rw [e_II' (by omega)]; exact (p5 pr hp).2⟩⟩
    have ec : ∀ k, y_mI (y_sI m1 13 2 1) (y_mc m) k = y_mI m (y_mc m) k := fun k => q_F_I F2 _ k (by unfold u_wW; omega)
    obtain ⟨k1, k2⟩ := u_xwk_new (S := S) (m1 := y_sI m1 13 2 1) (b := y_mc m) (L := L) (lw := lw) (P := P) (pu := 1) (by omega) (by rw [ec]; exact hK.eL) hK.l6 (by rw [ec]; exact hK.ew) hK.w2 a3' hb hl e_II (Or.inr (Or.inl rfl)) hS (by omega)
    have F3 : q_F u_wW m (y_sI (y_sI (y_sI (y_sI (y_sI m1 13 2 1) 13 3 0) 13 4 0) 14 1 (n_pop S : Int)) 15 0 (n_low S : Int)) := q_F_trans (q_F_trans (q_F_trans (q_F_trans F2 (q_F_sI (by unfold u_wW; omega))) (q_F_sI (by unfold u_wW; omega))) (q_F_sI (by unfold u_wW; omega))) (q_F_sI (by unfold u_wW; omega))
    have e3 : y_mI (y_sI (y_sI (y_sI (y_sI (y_sI m1 13 2 1) 13 3 0) 13 4 0) 14 1 (n_pop S : Int)) 15 0 (n_low S : Int)) 13 3 = 0 := by
      rw [e_II' (by omega), e_II' (by omega), e_II' (by omega), e_II]
    generalize y_sI (y_sI (y_sI (y_sI (y_sI m1 13 2 1) 13 3 0) 13 4 0) 14 1 (n_pop S : Int)) 15 0 (n_low S : Int) = M at *
    rw [hpop] at k1 k2
    obtain ⟨m2, b1, b2, b3⟩ := l_128f (sp := sp) (ph := ph) (d := d + 19 - 6 - (2 * P.length - 1)) (b := y_mc m) (L := L) (lw := lw) (n := 2 * P.length) (P := P) (by omega) (by omega) (2 * P.length - 1) [n_low S] (w_rm S (n_low S)) none true M (by simp; omega) (by simp) (by omega) (Nat.lt_of_le_of_lt (w_rm_le _ _) hS) (fun x hx => by rw [List.mem_singleton] at hx; omega) (fun _ => by simp; omega) k1 k2 e3
    rw [show d + 19 - 6 - (2 * P.length - 1) + 6 + (2 * P.length - 1) = d + 19 by omega] at b1
    have b1' : y_V sp ph (d + 19) 128 [y_bo 7 0 13, y_bo 0 0 (y_mc m), y_bi 1, y_bi (w_rm S (n_low S) : Int), y_bi (-1), y_bi 1] M = y_rV m2 := b1
    have F4 : q_F u_wW m m2 := q_F_trans F3 (q_F_mono b2 (fun a k q => by unfold u_wF at q; unfold u_wW; omega))
    rw [a1, e_bV, e25, s126, e_bI, b1', e_bV]
    rcases b3 with ⟨g1, g2⟩ | ⟨v, l, g1, g2, g3, g4⟩
    · refine ⟨m2, q_F_mono F4 (fun a k q => Or.inl q), Or.inl ⟨Or.inr g1, ?_⟩⟩
      rw [g2, if_neg (by decide)]
    · have hv : v ≠ [] := fun q => by rw [q] at g4; simp at g4; omega
      obtain ⟨m3, c1, c2, c3⟩ := s_64 (sp := sp) (ph := ph) (d := d + 16) (a := 20) (c := 14) (by omega) (by omega) (by omega) hv (u_wb_W g3 g4)
      refine ⟨m3, q_F_trans (q_F_mono F4 (fun a k q => Or.inl q)) (q_F_mono c2 (fun a k q => by omega)), Or.inr ⟨by omega, v, l, g1, g4, c3, ?_⟩⟩
      rw [g2, if_pos (by decide), y_E_125_50, c1, e_bV]
theorem s_159 (hK : c_K m L R A B t lw X w) (hP : u_PC m 25 P) (hk : u_Pk L R t P) : ((P.length < 2 ∨ u_gu L lw P = []) → ∃ m', y_V sp ph (d + 21) 159 [y_bo 10 0 0] m = y_rI (-1) m' ∧ q_F (fun a k => u_wW a k ∨ (a = 20 ∧ k = 1) ∨ a = 21) m m') ∧ (2 ≤ P.length → ∀ v l, u_gu L lw P = v :: l → ∃ m', y_V sp ph (d + 21) 159 [y_bo 10 0 0] m = y_rI (v.length : Int) m' ∧ q_F (fun a k => u_wW a k ∨ (a = 20 ∧ k = 1) ∨ a = 21 ∨ (a = 23 ∧ k = 1) ∨ a = 24) m m' ∧ q_W m' 23 v) := by
  obtain ⟨m1, a2, a1⟩ := s_125 (sp := sp) (ph := ph) (d := d) hK hP hk
  refine ⟨fun h => ?_, fun h v l hv => ?_⟩
  · rcases a1 with ⟨g1, g2⟩ | ⟨g1, v, l, g2, -⟩
    · exact ⟨m1, by rw [y_C_159, y_E_159_0, g2, e_bI, if_neg (by decide)], a2⟩
    · exfalso
      rcases h with q | q
      · omega
      · rw [q] at g2; cases g2
  · rcases a1 with ⟨g1, g2⟩ | ⟨g1, v', l', g2, g3, g4, g5⟩
    · exfalso
      rcases g1 with q | q
      · omega
      · rw [q] at hv; cases hv
    · rw [hv] at g2
      obtain ⟨e1, e2⟩ := List.cons.inj g2
      subst e1
      have hvn : v ≠ [] := fun q => by rw [q] at g3; simp at g3; omega
      obtain ⟨m2, c1, c2, c3⟩ := s_173 (sp := sp) (ph := ph) (d := d + 16) hvn g4
      exact ⟨m2, by rw [y_C_159, y_E_159_0, g5, e_bI, if_pos (by decide), y_E_159_27, c1, e_bI], q_F_trans (q_F_mono a2 (fun a k q => q.elim Or.inl (fun r => Or.inr (by omega)))) (q_F_mono c2 (fun a k q => Or.inr (by omega))), c3⟩
end Guess
