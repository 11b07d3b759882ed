/-! ===== alike, to the class ===== -/
def u_gal (L lw : Nat) : List (List Nat) := u_go L lw [] true (L + L - 1) [n_low (c_wh L L 0)] (w_rm (c_wh L L 0) (n_low (c_wh L L 0))) none true
def u_al (L lw : Nat) : Int := z_idiv (u_xsm (u_si L) (u_gal L lw)) 4
section Alike
variable {sp : Nat → Nat} {ph : Bool} {d : Nat} {m m' : y_m} {L R A B t lw X : Nat} {w : List Nat}
theorem n_pop_wh : ∀ L, L < 7 → n_pop (c_wh L L 0) = L + L := by decide
theorem s_123 (hK : c_K m L L A B 0 lw X w) (h2 : 2 ≤ L) (h4 : L ≤ 4) : ∃ m', y_V sp ph (d + 20) 123 [y_bo 7 0 13, y_bo 0 0 (y_mc m)] m = y_rI (u_al L lw) m' ∧ q_F u_wW m m' := by
  have s79 : y_V sp ph (d + 19) 79 [y_bo 3 0 16] m = y_rV (y_sI (y_sI m 16 1 0) 16 2 0) := by rw [y_C_79, y_E_79_0]
  have F1 : q_F u_wW m (y_sI (y_sI m 16 1 0) 16 2 0) := q_F_trans (q_F_sI (by unfold u_wW; omega)) (q_F_sI (by unfold u_wW; omega))
  have F2 : q_F u_wW m (y_sI (y_sI (y_sI m 16 1 0) 16 2 0) 13 2 2) := q_F_trans F1 (q_F_sI (by unfold u_wW; omega))
  have P0 : u_PC (y_sI (y_sI (y_sI m 16 1 0) 16 2 0) 13 2 2) 16 [] := u_PC_0 (by rw [e_II' (by omega), e_II' (by omega), e_II]) (by rw [e_II' (by omega), e_II])
  have e2 : y_mI (y_sI (y_sI (y_sI m 16 1 0) 16 2 0) 13 2 2) 13 2 = 2 := e_II
  rw [y_C_123, y_E_123_0, s79, e_bV]
  generalize y_sI (y_sI (y_sI m 16 1 0) 16 2 0) 13 2 2 = m1 at *
  have hbt := hK.b
  have ec : ∀ k, y_mI m1 (y_mc m) k = y_mI m (y_mc m) k := fun k => q_F_I F2 _ k (by unfold u_wW; omega)
  have s41 := s_41 (sp := sp) (ph := ph) (d := d + 17) (m := m1) (a := y_mc m) (L := L) (R := L) (t := 0) (by rw [ec]; exact hK.eL) (by rw [ec]; exact hK.eR) (by rw [ec]; exact hK.et) hK.l6 hK.r6 (by omega)
  have s41' : y_V sp ph (d + 19) 41 [y_bo 0 0 (y_mc m)] m1 = y_rI (c_wh L L 0 : Int) m1 := s41
  have hS : c_wh L L 0 < 4096 := c_wh_lt hK.l6 hK.l6
  have hpop := n_pop_wh L (by omega)
  have hin : ∀ j, (c_wh L L 0).testBit j = true → j < L + L := fun j hj => c_wh_in hj
  have eG : u_gal L lw = u_go L lw [] true (L + L - 1) [n_low (c_wh L L 0)] (w_rm (c_wh L L 0) (n_low (c_wh L L 0))) none true := rfl
  unfold u_al
  rw [eG]
  generalize c_wh L L 0 = S at *
  have hS0 : S ≠ 0 := fun q => by rw [q] at hpop; have : n_pop 0 = 0 := by decide
                                  omega
  have s126 := s_126 (sp := sp) (ph := ph) (d := d + 16) (m := m1) hS hS0
  have lo := w_low hS (by omega)
  have hpr := n_pop_rm hS lo.2.2.1
  obtain ⟨k1, k2⟩ := u_xwk_new (S := S) (m1 := m1) (b := y_mc m) (L := L) (lw := lw) (P := []) (pu := 2) (by omega) (by rw [ec]; exact hK.eL) hK.l6 (by rw [ec]; exact hK.ew) hK.w2 P0 (fun h hh => (by cases hh)) (by show 0 ≤ 6; omega) e2 (Or.inr (Or.inr rfl)) hS (by omega)
  have F3 : q_F u_wW m (y_sI (y_sI (y_sI (y_sI m1 13 3 0) 13 4 0) 14 1 (n_pop S : Int)) 15 0 (n_low S : Int)) := q_F_trans (q_F_trans (q_F_trans (q_F_trans F2 (q_F_sI (by unfold u_wW; omega))) (q_F_sI (by unfold u_wW; omega))) (q_F_sI (by unfold u_wW; omega))) (q_F_sI (by unfold u_wW; omega))
  have e4 : y_mI (y_sI (y_sI (y_sI (y_sI m1 13 3 0) 13 4 0) 14 1 (n_pop S : Int)) 15 0 (n_low S : Int)) 13 4 = 0 := by
    rw [e_II' (by omega), e_II' (by omega), e_II]
  generalize y_sI (y_sI (y_sI (y_sI m1 13 3 0) 13 4 0) 14 1 (n_pop S : Int)) 15 0 (n_low S : Int) = M at *
  rw [hpop] at k1 k2
  obtain ⟨m2, b1, b2, b3, b4⟩ := l_128c (sp := sp) (ph := ph) (d := d + 19 - 6 - (L + L - 1)) (b := y_mc m) (L := L) (lw := lw) (n := L + L) (P := []) (pu := 2) (si := u_si L) (c0 := L + L) (by omega) (Or.inr rfl) (fun _ M w hLm hW hlen hb => s_76 (d := d + 19 - 6 - (L + L - 1)) hW (fun q => by rw [q] at hlen; simp at hlen; omega) hLm (by omega) hb) (by omega) (by omega) (L + L - 1) [n_low S] (w_rm S (n_low S)) none true M (by simp; omega) (by simp) (by omega) (Nat.lt_of_le_of_lt (w_rm_le _ _) hS) (fun z hz => by rw [w_rm_bit, Bool.and_eq_true] at hz; exact hin z hz.1) (fun x hx => by rw [List.mem_singleton] at hx; rw [hx]; exact hin _ lo.2.2.1) (fun _ => by simp; omega) k1 k2
  rw [show d + 19 - 6 - (L + L - 1) + 6 + (L + L - 1) = d + 19 by omega] at b1
  have b1' : y_V sp ph (d + 19) 128 [y_bo 7 0 13, y_bo 0 0 (y_mc m), y_bi 1, y_bi (w_rm S (n_low S) : Int), y_bi (-1), y_bi 1] M = y_rV m2 := b1
  refine ⟨m2, ?_, q_F_trans F3 (q_F_mono b2 (fun a k q => by unfold u_wF at q; unfold u_wW; omega))⟩
  rw [if_pos rfl, e4, Int.zero_add, show decide ((2 : Int) ≠ 0) = true from rfl] at b4
  rw [s41', e_bI, s126, e_bI, b1', e_bV, b4]
theorem s_152 (hK : c_K m L R A B t lw X w) (hr : 1 ≤ R) : ∃ m', y_V sp ph (d + 21) 152 [y_bo 10 0 0] m = y_rI (if L = R ∧ t = 0 ∧ L ≤ 4 then (if L = 1 then 0 else u_al L lw) else -1) m' ∧ q_F u_wW m m' := by
  have s42 := s_42 (sp := sp) (ph := ph) (d := d + 19) (m := m) (a := y_mc m) hK.eL hK.eR hK.et hK.l6 hK.r6 hK.t4
  have s38 := s_38 (sp := sp) (ph := ph) (d := d + 19) (m := m) (a := y_mc m)
  have h6 := hK.l6
  have hr6 := hK.r6
  rw [hK.eL, hK.eR] at s38
  rw [y_C_152, y_E_152_0, s42, e_bI]
  by_cases c : L = R ∧ t = 0
  · rw [decide_eq_true c, if_neg (by decide), s38, e_bI]
    by_cases c4 : L ≤ 4
    · rw [if_pos (by rw [z_w_id (by omega) (by omega)]; omega), y_E_152_24, s38, e_bI, if_pos (show L = R ∧ t = 0 ∧ L ≤ 4 from ⟨c.1, c.2, c4⟩)]
      by_cases c1 : L = 1
      · rw [if_neg (by rw [z_w_id (by omega) (by omega)]; omega), if_pos c1]
        exact ⟨m, rfl, q_F_refl⟩
      · obtain ⟨cc, rfl⟩ := c
        subst cc
        obtain ⟨m1, a1, a2⟩ := s_123 (sp := sp) (ph := ph) (d := d) hK (by omega) c4
        rw [if_pos (by rw [z_w_id (by omega) (by omega)]; omega), if_neg c1, y_E_152_37, a1, e_bI]
        exact ⟨m1, rfl, a2⟩
    · rw [if_neg (by rw [z_w_id (by omega) (by omega)]; omega), y_E_152_22, if_neg (fun q => c4 q.2.2)]
      exact ⟨m, rfl, q_F_refl⟩
  · rw [decide_eq_false c, if_pos (by decide), y_E_152_22, if_neg (fun q => c ⟨q.1, q.2.1⟩)]
    exact ⟨m, rfl, q_F_refl⟩
end Alike
