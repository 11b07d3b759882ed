section Way
variable {sp : Nat → Nat} {ph : Bool} {d : Nat} {m m' : y_m} {f : Nat → Int} {n p cnt : Nat} {e q lo hi : Int} {L R A B t lw X b : Nat} {w : List Nat}
theorem t_195n {N : Nat} {x : Int} (h : u_Rt m f N) (h0 : -2147483648 ≤ x) (h1 : x < 2147483648) (hx : ¬ (0 ≤ x ∧ x ≤ N ∧ x ≤ 100)) : y_V sp ph (d + 2) 195 [y_bo 11 0 49, y_bi x] m = y_rI 0 (y_sI (y_sI m 49 0 0) 49 0 1) := by
  have hN := h.2.1
  have e1 : y_mI (y_sI m 49 0 0) 49 1 = N := by rw [e_II' (by omega)]; exact h.1
  have e0 : y_mI (y_sI m 49 0 0) 49 0 = 0 := e_II
  have t180 := t_180 (sp := sp) (ph := ph) (d := d) (m := y_sI m 49 0 0) (v := x) (lo := 0) (hi := (N : Int)) h0 h1 (by omega) (by omega) (by omega) (by omega)
  have t179 := t_179b (sp := sp) (ph := ph) (d := d) (m := y_sI m 49 0 0) e0 (x := 1) (by omega) (by omega)
  rw [y_C_195, y_E_195_0, e1, t180, e_bI]
  by_cases c : 0 ≤ x ∧ x ≤ (N : Int)
  · rw [decide_eq_true c, if_neg (by decide), if_neg (by rw [z_w_id h0 h1]; omega), y_E_195_24, y_E_195_29, t179, e_bI, if_neg (by decide)]
  · rw [decide_eq_false c, if_pos (by decide), y_E_195_24, y_E_195_29, t179, e_bI, if_neg (by decide)]
/-- the frame of a way that is read, to the reference -/
def u_wr (a k : Nat) : Prop := (a = 49 ∧ k ≤ 7) ∨ (a = 53 ∧ k < 12)
def u_wv (a k : Nat) : Prop := u_wr a k ∨ a = 54 ∨ (a = 49 ∧ k = 13)
theorem l_195a {N : Nat} (hU : u_R m L R A B t lw X w) (h : u_Rt m f N) (hn : n ≤ N) (hn' : n ≤ 100) (hH : 1 ≤ L + R) : ∃ p' e' q' x2 m', y_V sp ph (d + 4) 195 [y_bo 11 0 49, y_bi (n : Int)] m = y_R sp ph (d + 3) 195 243 [some (y_bo 11 0 49), none, some (y_bi x2), none, none, none] [] m' ∧ q_F u_wr m m' ∧ y_mI m' 49 0 = 0 ∧ y_mI m' 49 1 = 0 ∧ u_RP m' f n p' e' q' 0 ∧ u_vr (-1) (u_wy f n (L + R) 13 0 t []) m' e' q' x2 := by
  have hN := h.2.1
  obtain ⟨⟨c0, c1, c2, c3, c4, c6, c7, c8, c9, cB⟩, -⟩ := hU
  have e1 : y_mI (y_sI m 49 0 0) 49 1 = N := by rw [e_II' (by omega)]; exact h.1
  have e0 : y_mI (y_sI m 49 0 0) 49 0 = 0 := e_II
  have F0 : q_F u_wr m (y_sI m 49 0 0) := q_F_sI (by unfold u_wr; omega)
  have h' : u_Rt (y_sI m 49 0 0) f N := ⟨e1, hN, fun i hi => by rw [e_II' (by omega)]; exact h.2.2 i hi⟩
  have t180 := t_180 (sp := sp) (ph := ph) (d := d + 2) (m := y_sI m 49 0 0) (v := (n : Int)) (lo := 0) (hi := (N : Int)) (by omega) (by omega) (by omega) (by omega) (by omega) (by omega)
  have t179 := t_179a (sp := sp) (ph := ph) (d := d + 2) (m := y_sI m 49 0 0) e0 (x := 1)
  obtain ⟨m1, a1, a2, a3, a4⟩ := t_191 (sp := sp) (ph := ph) (d := d) h' hn
  have F1 : q_F u_wr m m1 := q_F_trans F0 (q_F_mono a2 (fun a k r => by unfold u_sq at r; unfold u_wr; omega))
  have e52 : ∀ j, y_mI m1 52 j = y_mI m 52 j := fun j => q_F_I F1 52 j (fun r => by unfold u_wr at r; omega)
  obtain ⟨p', e', q', x2, m3, d1, d2, d3, d4⟩ := l_195 (sp := sp) (ph := ph) (d := d) (t := t) cB.1 cB.2.1 hH 13 0 t [] m1 rfl (Nat.zero_le _) a3 (by rw [e52]; exact c0) (by rw [e52]; exact c1) (u_wi_0 (by have := cB.1; have := cB.2.1; omega) c8) (fun i hi => absurd hi (Nat.not_lt_zero i))
  refine ⟨p', e', q', x2, m3, ?_, q_F_trans F1 (q_F_mono d2 (fun a k r => by unfold u_rw u_rf at r; unfold u_wr; omega)), ?_, ?_, d3, d4⟩
  · rw [y_C_195, y_E_195_0, e1, t180, e_bI, decide_eq_true (show (0 : Int) ≤ (n : Int) ∧ (n : Int) ≤ (N : Int) by omega), if_neg (by decide), if_pos (by rw [z_w_id (by omega) (by omega)]; omega), y_E_195_28, y_E_195_29, t179, e_bI, if_pos (by decide), y_E_195_38, a1, e_bV, e52, c6]
    exact d1
  · rw [q_F_I d2 49 0 (fun r => by unfold u_rw u_rf at r; omega), q_F_I a2 49 0 (fun r => by unfold u_sq at r; omega)]; exact e0
  · rw [q_F_I d2 49 1 (fun r => by unfold u_rw u_rf at r; omega)]; exact a4
theorem t_195e {N : Nat} {x : Int × Int} (hU : u_R m L R A B t lw X w) (h : u_Rt m f N) (hn : n ≤ N) (hn' : n ≤ 100) (hH : 1 ≤ L + R) (hx : u_wy f n (L + R) 13 0 t [] = .inl x) : ∃ m', y_V sp ph (d + 4) 195 [y_bo 11 0 49, y_bi (n : Int)] m = y_rI (x.1 - 10) m' ∧ q_F u_wr m m' ∧ y_mI m' 49 0 = 0 ∧ y_mI m' 49 1 = 0 ∧ y_mI m' 49 3 = x.2 := by
  obtain ⟨p', e', q', x2, m3, a1, a2, a3, a4, a5, a6⟩ := l_195a (sp := sp) (ph := ph) (d := d) hU h hn hn' hH
  rw [hx] at a6
  obtain ⟨b1, b2, b3⟩ := a6
  have eb := a5.2.2.2.2.2.2.2
  have ee : y_mI (y_sI m3 49 3 (y_mI m3 49 6)) 49 5 = e' := by rw [e_II' (by omega)]; exact a5.2.2.2.2.1
  refine ⟨y_sI m3 49 3 (y_mI m3 49 6), ?_, q_F_trans a2 (q_F_sI (by unfold u_wr; omega)), ?_, ?_, ?_⟩
  · rw [a1, y_E_195_243, ee, if_neg (by rw [z_w_id (by omega) (by omega), b1]; exact b3), b1]
  · rw [e_II' (by omega)]; exact a3
  · rw [e_II' (by omega)]; exact a4
  · rw [e_II, a5.2.2.2.2.2.1]; exact b2
theorem t_195s {N : Nat} {w' : List Nat} (hU : u_R m L R A B t lw X w) (h : u_Rt m f N) (hn : n ≤ N) (hn' : n ≤ 100) (hH : 1 ≤ L + R) (hx : u_wy f n (L + R) 13 0 t [] = .inr w') : ∃ m', y_V sp ph (d + 4) 195 [y_bo 11 0 49, y_bi (n : Int)] m = y_rI (w'.length : Int) m' ∧ q_F u_wv m m' ∧ y_mI m' 49 0 = 0 ∧ y_mI m' 49 1 = 0 ∧ y_mI m' 49 3 = -1 ∧ u_R m' L R A B t lw X w' := by
  obtain ⟨p', e', q', x2, m3, a1, a2, a3, a4, a5, a6⟩ := l_195a (sp := sp) (ph := ph) (d := d) hU h hn hn' hH
  rw [hx] at a6
  obtain ⟨b1, b2, b3, b4, b5⟩ := a6
  have ee : y_mI (y_sI m3 49 3 (y_mI m3 49 6)) 49 5 = e' := by rw [e_II' (by omega)]; exact a5.2.2.2.2.1
  have e3 : y_mI (y_sI m3 49 3 (y_mI m3 49 6)) 49 3 = -1 := by rw [e_II, a5.2.2.2.2.2.1]; exact b2
  have e0 : y_mI (y_sI m3 49 3 (y_mI m3 49 6)) 49 0 = 0 := by rw [e_II' (by omega)]; exact a3
  have e1 : y_mI (y_sI m3 49 3 (y_mI m3 49 6)) 49 1 = 0 := by rw [e_II' (by omega)]; exact a4
  have hw : ∀ i, i < w'.length → y_mI (y_sI m3 49 3 (y_mI m3 49 6)) 53 i = ((w'.getD i 0 : Nat) : Int) := fun i hi => by rw [e_II' (by omega)]; exact b5 i hi
  have st : y_V sp ph (d + 4) 195 [y_bo 11 0 49, y_bi (n : Int)] m = y_R sp ph (d + 3) 195 266 [some (y_bo 11 0 49), none, some (y_bi x2), none, none, none] [] (y_sI m3 49 3 (y_mI m3 49 6)) := by
    rw [a1, y_E_195_243, ee, if_pos (by rw [b1]; decide)]
  have F := q_F_trans a2 (q_F_sI (S := u_wr) (m := m3) (a := 49) (k := 3) (x := y_mI m3 49 6) (by unfold u_wr; omega))
  generalize y_sI m3 49 3 (y_mI m3 49 6) = M at *
  have t196 := t_196 (sp := sp) (ph := ph) (d := d + 2) (m := M) (a := 53) (w := w') (by omega) (by omega) b4 hw
  obtain ⟨m5, d1, d2, d3⟩ := t196
  have G : q_F u_wv m m5 := q_F_trans (q_F_mono F (fun a k r => Or.inl r)) (q_F_mono d2 (fun a k r => by unfold u_wv; omega))
  refine ⟨m5, ?_, G, ?_, ?_, ?_, u_R_way hU G (fun a k r => by unfold u_wv u_wr at r; unfold q_wr; omega) d3⟩
  · rw [st, y_E_195_266, b3, d1, e_bV]
  · rw [q_F_I d2 49 0 (fun r => by omega)]; exact e0
  · rw [q_F_I d2 49 1 (fun r => by omega)]; exact e1
  · rw [q_F_I d2 49 3 (fun r => by omega)]; exact e3
end Way
