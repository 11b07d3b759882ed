section Best
variable {sp : Nat → Nat} {ph : Bool} {d : Nat} {m : y_m} {L R A B t lw X T : Nat} {w : List Nat}
def u_R25 (a k : Nat) : Prop := m_25 a k ∨ (a = 49 ∧ k = 0)
theorem t_255b {x y : Int} (hU : u_R m L R A B t lw X w) (h0 : -2147483648 ≤ x) (h1 : x < 2147483648) (h2 : -2147483648 ≤ y) (h3 : y < 2147483648) (hno : ¬ (c_rd L R t x ∧ 0 ≤ y ∧ y ≤ 2)) : y_V sp ph (d + 8) 255 [y_bo 11 0 49, y_bi x, y_bi y] m = y_rI 0 (y_sI (y_sI m 49 0 0) 49 0 1) := by
  obtain ⟨⟨g0, g1, gA, gB, g4, g6, hlw, ht4, hR, hB⟩, gX, hX, hV⟩ := hU
  have t241 := t_241 (sp := sp) (ph := ph) (d := d + 5) (m := y_sI m 49 0 0) (L := L) (R := R) (t := t) (x := x) (by rw [e_II' (by omega)]; exact g0) (by rw [e_II' (by omega)]; exact g1) (by rw [e_II' (by omega)]; exact g6) hB.1 hB.2.1 ht4 h0 h1
  have t179 := t_179b (sp := sp) (ph := ph) (d := d + 6) (m := y_sI m 49 0 0) e_II (x := 1) (by omega) (by omega)
  by_cases hr : c_rd L R t x
  · have hy : ¬ (0 ≤ y ∧ y ≤ 2) := fun q => hno ⟨hr, q⟩
    have t241 := t241.1 hr
    have t180 := t_180 (sp := sp) (ph := ph) (d := d + 6) (m := y_sI m 49 0 0) (v := y) (lo := 0) (hi := 2) h2 h3 (by omega) (by omega) (by omega) (by omega)
    rw [decide_eq_false hy] at t180
    rw [y_C_255, y_E_255_0, t241, e_bI, if_neg (by decide), t180, e_bI, if_neg (by decide), y_E_255_23, y_E_255_28, t179, e_bI, if_neg (by decide)]
  · have t241 := t241.2 hr
    rw [y_C_255, y_E_255_0, t241, e_bI, if_pos (by decide), y_E_255_23, y_E_255_28, t179, e_bI, if_neg (by decide)]
theorem t_255s {x : Int} {what : Nat} (hU : u_R m L R A B t lw X w) (hr : c_rd L R t x) (h0 : -2147483648 ≤ x) (h1 : x < 2147483648) (hw : what ≤ 2) : y_V sp ph (d + 8) 255 [y_bo 11 0 49, y_bi x, y_bi (what : Int)] m = y_R sp ph (d + 7) 255 37 [some (y_bo 11 0 49), some (y_bi x), some (y_bi (what : Int)), none, none] [] (y_sI m 49 0 0) := by
  obtain ⟨⟨g0, g1, gA, gB, g4, g6, hlw, ht4, hR, hB⟩, gX, hX, hV⟩ := hU
  have t241 := (t_241 (sp := sp) (ph := ph) (d := d + 5) (m := y_sI m 49 0 0) (L := L) (R := R) (t := t) (x := x) (by rw [e_II' (by omega)]; exact g0) (by rw [e_II' (by omega)]; exact g1) (by rw [e_II' (by omega)]; exact g6) hB.1 hB.2.1 ht4 h0 h1).1 hr
  have t179 := t_179a (sp := sp) (ph := ph) (d := d + 6) (m := y_sI m 49 0 0) e_II (x := 1)
  have t180 := t_180 (sp := sp) (ph := ph) (d := d + 6) (m := y_sI m 49 0 0) (v := (what : Int)) (lo := 0) (hi := 2) (by omega) (by omega) (by omega) (by omega) (by omega) (by omega)
  rw [decide_eq_true (show 0 ≤ (what : Int) ∧ (what : Int) ≤ 2 by omega)] at t180
  rw [y_C_255, y_E_255_0, t241, e_bI, if_neg (by decide), t180, e_bI, if_pos (by decide), y_E_255_27, y_E_255_28, t179, e_bI, if_pos (by decide)]
theorem m_rx_RX {E : List (Nat × Nat)} (hT : T < 4096) (hp : 0 < n_pop T) : m_rx lw L T E ↔ m_RX lw L T E := by
  unfold m_rx m_RX
  rw [r_hs_0, r_rest_0 hT hp]
/-- the reference's best rounds, told over the set -/
theorem t_254x {what : Nat} (hc : m_Ch m L R A B lw t) (hw : what ≤ 2) (hT : T < 4096) (h3 : 3 ≤ n_pop T) (hin : ∀ j, T.testBit j = true → j < L + R) (hno : ∀ E, ¬ m_rx lw L T E) : ∃ m', y_V sp ph (d + 7) 254 [y_bo 11 0 49, y_bi (T : Int), y_bi (what : Int)] m = y_rL (-1) m' ∧ q_F m_25 m m' := by
  obtain ⟨g0, g1, gA, gB, g4, g6, hlw, ht4, hR, hB⟩ := hc
  exact t_254a hw hT h3 g0 g4 gA gB hlw hR hB hin (fun E h => hno E ((m_rx_RX hT (by omega)).mpr h))
theorem t_254y {what : Nat} {M : Int} (hc : m_Ch m L R A B lw t) (hw : what ≤ 2) (hT : T < 4096) (h3 : 3 ≤ n_pop T) (hin : ∀ j, T.testBit j = true → j < L + R) (hM : m_is M (m_P what L A B (m_rx lw L T))) (hMF : M ≠ m_F) : ∃ u m', y_V sp ph (d + 7) 254 [y_bo 11 0 49, y_bi (T : Int), y_bi (what : Int)] m = y_rL (w_code L A B (m_eu (n_low T) (n_low T) u) : Int) m' ∧ q_F m_25 m m' ∧ y_mI m' 49 33 = n_pop T ∧ y_mI m' 97 0 = (n_low T : Int) ∧ (∀ j, j + 1 < n_pop T → y_mI m' 97 (1 + j) = ((u.getD j 0 : Nat) : Int)) ∧ u.length = n_pop T - 1 ∧ m_gr what L A B lw (r_x L) (n_low T) M (n_pop T - 1) none (n_low T) (w_rm T (n_low T)) 0 u := by
  obtain ⟨g0, g1, gA, gB, g4, g6, hlw, ht4, hR, hB⟩ := hc
  obtain ⟨EM, e1, e2⟩ := m_is_mem hM hMF
  obtain ⟨u, m', a1, a2, a3, a4, a5, a6, a7, a8⟩ := t_254b (sp := sp) (ph := ph) (d := d) (M := M) hw hT h3 g0 g4 gA gB hlw hR hB hin (fun E h => m_is_le hM ⟨E, (m_rx_RX hT (by omega)).mpr h, rfl⟩) ⟨(m_rx_RX hT (by omega)).mp e1, e2⟩
  rw [r_hs_0] at a1 a4 a7
  rw [r_rest_0 hT (by omega)] at a7
  exact ⟨u, m', a1, a2, a3, a4, a5, a6, a7⟩
theorem t_255a {x : Int} {what : Nat} (hU : u_R m L R A B t lw X w) (hr : c_rd L R t x) (h0 : -2147483648 ≤ x) (h1 : x < 2147483648) (hw : what ≤ 2) (hno : ∀ E, ¬ m_rx lw L x.toNat E) : ∃ m', y_V sp ph (d + 8) 255 [y_bo 11 0 49, y_bi x, y_bi (what : Int)] m = y_rI (-1) m' ∧ q_F u_R25 m m' ∧ y_mI m' 49 0 = 0 := by
  rw [t_255s hU hr h0 h1 hw]
  have hlt := c_rd_lt hU.1.2.2.2.2.2.2.2.2.2.1 hU.1.2.2.2.2.2.2.2.2.2.2.1 hr.2.1
  have hF0 : q_F u_R25 m (y_sI m 49 0 0) := q_F_sI (by unfold u_R25; omega)
  have hc0 := m_Ch_F hU.1 (q_F_sI (m := m) (a := 49) (k := 0) (x := 0) (S := fun a k => a = 49 ∧ k = 0) ⟨rfl, rfl⟩) (fun a k q => by unfold q_wr; omega)
  have hinT : ∀ j, x.toNat.testBit j = true → j < L + R := fun j hj => c_wh_in (n_bd_0.mp hr.2.1 j hj)
  obtain ⟨m1, a1, a2⟩ := t_254x (sp := sp) (ph := ph) (d := d) hc0 hw hlt hr.2.2 hinT hno
  rw [Int.toNat_of_nonneg hr.1] at a1
  refine ⟨m1, ?_, q_F_trans hF0 (q_F_mono a2 (fun a k q => Or.inl q)), by rw [q_F_I a2 49 0 (by unfold m_25; omega), e_II]⟩
  rw [y_E_255_37, a1, e_bL, if_neg (by decide)]
theorem t_255 {x M : Int} {what : Nat} (hU : u_R m L R A B t lw X w) (hr : c_rd L R t x) (h0 : -2147483648 ≤ x) (h1 : x < 2147483648) (hw : what ≤ 2) (hM : m_is M (m_P what L A B (m_rx lw L x.toNat))) (hMF : M ≠ m_F) : ∃ u m', y_V sp ph (d + 8) 255 [y_bo 11 0 49, y_bi x, y_bi (what : Int)] m = y_rI (m_tell what L A B (m_eu (n_low x.toNat) (n_low x.toNat) u)) m' ∧ q_F (fun a k => u_R25 a k ∨ a = 54 ∨ (a = 49 ∧ k = 13)) m m' ∧ y_mI m' 49 0 = 0 ∧ q_V m' (n_low x.toNat :: u) ∧ m_gr what L A B lw (r_x L) (n_low x.toNat) M (n_pop x.toNat - 1) none (n_low x.toNat) (w_rm x.toNat (n_low x.toNat)) 0 u := by
  rw [t_255s hU hr h0 h1 hw]
  have hB := hU.1.2.2.2.2.2.2.2.2.2
  have hlt := c_rd_lt hB.1 hB.2.1 hr.2.1
  have hF0 : q_F u_R25 m (y_sI m 49 0 0) := q_F_sI (by unfold u_R25; omega)
  have hc0 := m_Ch_F hU.1 (q_F_sI (m := m) (a := 49) (k := 0) (x := 0) (S := fun a k => a = 49 ∧ k = 0) ⟨rfl, rfl⟩) (fun a k q => by unfold q_wr; omega)
  have hinT : ∀ j, x.toNat.testBit j = true → j < L + R := fun j hj => c_wh_in (n_bd_0.mp hr.2.1 j hj)
  obtain ⟨u, m1, a1, a2, a3, a4, a5, a6, a7⟩ := t_254y (sp := sp) (ph := ph) (d := d) hc0 hw hlt hr.2.2 hinT hM hMF
  rw [Int.toNat_of_nonneg hr.1] at a1
  have hp3 := hr.2.2
  obtain ⟨wn, wm, wl⟩ : (n_low x.toNat :: u).Nodup ∧ (∀ y ∈ n_low x.toNat :: u, x.toNat.testBit y = true) ∧ (n_low x.toNat :: u).length = n_pop x.toNat := by
    have hT0 : 0 < x.toNat := by
      rcases Nat.eq_zero_or_pos x.toNat with q | q
      · rw [q, show n_pop 0 = 0 from by decide] at hp3; omega
      · exact q
    have lo := w_low hlt hT0
    obtain ⟨g1, g2, g3⟩ := m_gr_len _ _ _ _ _ _ a7
    refine ⟨List.nodup_cons.mpr ⟨fun q => ?_, g2⟩, fun y hy => ?_, by rw [List.length_cons, g1]; omega⟩
    · have := g3 _ q
      rw [w_rm_bit] at this; simp at this
    · rcases List.mem_cons.mp hy with rfl | hy
      · exact lo.2.2.1
      · have := g3 y hy
        rw [w_rm_bit, Bool.and_eq_true] at this; exact this.1
  have hpl := n_pop_le hlt
  have hE := m_way_E (n := L + R) wn (by omega) (fun y hy => hinT y (wm y hy))
  have hEE : m_E L R (m_eu (n_low x.toNat) (n_low x.toNat) u) := ⟨⟨hE.1, hE.2.1⟩, by rw [hE.2.2]; omega⟩
  obtain ⟨m2, b1, b2, b3⟩ := t_196 (sp := sp) (ph := ph) (d := d + 6) (m := m1) (a := 97) (w := n_low x.toNat :: u) (by omega) (by omega) (by omega) (fun i hi => by
    rw [wl] at hi
    by_cases q : i = 0
    · subst q; exact a4
    · obtain ⟨j, hj⟩ : ∃ j, i = j + 1 := ⟨i - 1, by omega⟩
      subst hj
      rw [Nat.add_comm j 1, a5 j (by omega), Nat.add_comm 1 j]; rfl)
  rw [wl] at b1
  have hR2 : q_RR m2 A B := q_RR_F (q_RR_F hc0.2.2.2.2.2.2.2.2.1 a2 (fun a k q => by unfold m_25 at q; unfold q_wr; omega)) b2 (fun a k q => by unfold q_wr; omega)
  have cl := m_code_lt hB hEE
  have lc : (z_w (z_lcmp (w_code L A B (m_eu (n_low x.toNat) (n_low x.toNat) u) : Int) (-1)) = 0) = ((w_code L A B (m_eu (n_low x.toNat) (n_low x.toNat) u) : Int) = -1) := n_lc_eq (by omega) (by omega) (by omega) (by omega)
  have st : ∀ r m3, y_V sp ph (d + 7) 221 [y_bo 11 0 49, y_bl (w_code L A B (m_eu (n_low x.toNat) (n_low x.toNat) u) : Int), y_bi (n_b (decide (what = 2)))] m2 = y_rI r m3 → y_R sp ph (d + 7) 255 37 [some (y_bo 11 0 49), some (y_bi x), some (y_bi (what : Int)), none, none] [] (y_sI m 49 0 0) = y_rI r m3 := by
    intro r m3 hr3
    rw [y_E_255_37, a1, e_bL, if_pos (by rw [lc]; omega), y_E_255_54, a3, b1, e_bV]
    by_cases w2 : what = 2
    · rw [decide_eq_true w2] at hr3
      have hr3' : y_V sp ph (d + 7) 221 [y_bo 11 0 49, y_bl (w_code L A B (m_eu (n_low x.toNat) (n_low x.toNat) u) : Int), y_bi 1] m2 = y_rI r m3 := hr3
      rw [if_neg (by rw [z_w_id (by omega) (by omega)]; omega), y_E_255_78, hr3', e_bI]
    · rw [decide_eq_false w2] at hr3
      have hr3' : y_V sp ph (d + 7) 221 [y_bo 11 0 49, y_bl (w_code L A B (m_eu (n_low x.toNat) (n_low x.toNat) u) : Int), y_bi 0] m2 = y_rI r m3 := hr3
      rw [if_pos (by rw [z_w_id (by omega) (by omega)]; omega), y_E_255_77, y_E_255_78, hr3', e_bI]
  have fin : ∃ m3, y_V sp ph (d + 7) 221 [y_bo 11 0 49, y_bl (w_code L A B (m_eu (n_low x.toNat) (n_low x.toNat) u) : Int), y_bi (n_b (decide (what = 2)))] m2 = y_rI (m_tell what L A B (m_eu (n_low x.toNat) (n_low x.toNat) u)) m3 ∧ q_F m_9 m2 m3 := by
    unfold m_tell
    by_cases w2 : what = 2
    · rw [decide_eq_true w2, if_pos w2]
      exact t_221P hR2 hB hEE
    · rw [decide_eq_false w2, if_neg w2]
      exact t_221L hR2 hB hEE
  obtain ⟨m3, f1, f2⟩ := fin
  refine ⟨u, m3, st _ _ f1, q_F_trans (q_F_mono hF0 (fun a k q => Or.inl q)) (q_F_trans (q_F_mono a2 (fun a k q => Or.inl (Or.inl q))) (q_F_trans (q_F_mono b2 (fun a k q => by omega)) (q_F_mono f2 (fun a k q => by unfold m_9 at q; unfold u_R25 m_25; omega)))), ?_, ?_, a7⟩
  · rw [q_F_I f2 49 0 (by unfold m_9; omega), q_F_I b2 49 0 (by omega), q_F_I a2 49 0 (by unfold m_25; omega), e_II]
  · exact ⟨by rw [q_F_I f2 49 13 (by unfold m_9; omega)]; exact b3.1, b3.2.1, fun i hi => by rw [q_F_I f2 54 i (by unfold m_9; omega)]; exact b3.2.2 i hi⟩
end Best
