section Way
variable {sp : Nat → Nat} {ph : Bool} {d : Nat} {m m' : y_m} {f : Nat → Int} {n p : Nat} {e q lo hi : Int} {L R A B t lw X b : Nat} {w : List Nat}
theorem u_C_way {P : Nat → Nat → Prop} {w' : List Nat} (h : u_C m L R A B t lw X w) (hF : q_F P m m') (hP : ∀ a k, P a k → 31 ≤ a ∨ a ≤ 2 ∨ (13 ≤ a ∧ a ≤ 28)) (hW : q_W m' 23 w') (h1 : ∀ h ∈ w', (c_wh L R t).testBit h = true) (h2 : w'.Nodup) (h3 : w' = [] ∨ 3 ≤ w'.length) : u_C m' L R A B t lw X w' := by
  obtain ⟨g1, g2, g3, g4⟩ := h
  have ec : y_mc m' = y_mc m := hF.2.2.1
  refine ⟨c_K_way g1 hF (fun a k q => by have := hP a k q; omega) hW h1 h2 h3, c_Ws_F g2 hF (fun q => by have := hP _ _ q; omega) (fun k q => by have := hP _ _ q; omega), ?_, m_Fi_F g4 hF (fun a k q => by have := hP a k q; omega)⟩
  rw [ec]
  have hb := g1.b
  exact m_Q_F g3 hF (fun a k q => by have := hP a k q; omega)
theorem u_wi_0 {H : Nat} (hH : H ≤ 12) (ht : t < 4096) : u_wi t H t [] := ⟨hH, ht, List.nodup_nil, fun h hh => absurd hh List.not_mem_nil, fun h => by rw [decide_eq_false List.not_mem_nil, Bool.or_false]⟩
theorem u_wy_wh {k p : Nat} {w' : List Nat} (hL : L ≤ 6) (hR : R ≤ 6) (ht : t < 4096) (h : u_wy f n (L + R) 13 p t [] = .inr w') : (∀ h ∈ w', (c_wh L R t).testBit h = true) ∧ w'.Nodup ∧ 3 ≤ w'.length ∧ w'.length ≤ 12 := by
  obtain ⟨a1, a2, a3, a4⟩ := u_wy_ok (t := t) 13 p t [] w' rfl (u_wi_0 (by omega) ht) h
  refine ⟨fun h hh => ?_, a1, a3, a4⟩
  rw [c_wh_bit, decide_eq_true (a2 h hh).1, (a2 h hh).2]; rfl
theorem s_69 (hb : b = 29 ∨ b = 30) (hL : L ≤ 6) (hR : R ≤ 6) (hH : 1 ≤ L + R) (ht : t < 4096) (h : u_TP m f n p 0 q) (h1 : y_mI m b 0 = L) (h2 : y_mI m b 1 = R) (h3 : y_mI m b 4 = t) : ∃ p' e' q' m', y_V sp ph (d + 5) 69 [y_bo 8 0 20, y_bo 6 0 1, y_bo 0 0 b] m = y_rV m' ∧ q_F u_wf m m' ∧ u_TP m' f n p' e' q' ∧ u_vw q (u_wy f n (L + R) 13 p t []) m' e' q' := by
  have s62 := s_62 (sp := sp) (ph := ph) (d := d + 3) (m := m) (a := 20)
  have e1 : ∀ j, y_mI (y_sI m 20 1 0) b j = y_mI m b j := fun j => e_II' (by omega)
  obtain ⟨p', e', q', m', a1, a2, a3, a4⟩ := l_69 (sp := sp) (ph := ph) (d := d) (t := t) hb hL hR hH 13 p t [] (y_sI m 20 1 0) rfl (u_TP_sI h (by omega) (by omega)) (by rw [e1]; exact h1) (by rw [e1]; exact h2) (u_wi_0 (by omega) ht) ⟨e_II, by show 0 ≤ 12; omega, fun i hi => absurd hi (Nat.not_lt_zero i)⟩
  refine ⟨p', e', q', m', ?_, q_F_trans (q_F_sI (by unfold u_wf; omega)) a2, a3, a4⟩
  rw [y_C_69, y_E_69_0, s62, e_bV, e1, h3]
  exact a1
theorem s_138n {N : Nat} {x : Int} (h : u_Ct m f N) (h0 : -2147483648 ≤ x) (h1 : x < 2147483648) (hx : ¬ (0 ≤ x ∧ x ≤ N ∧ x ≤ 100)) : y_V sp true (d + 2) 138 [y_bo 10 0 0, y_bi x] m = some (.inr 0, y_tm m) := by
  have hN := h.2.1
  rw [y_C_138, y_E_138_0, z_w_id h0 h1]
  by_cases c : x < 0
  · rw [if_pos c, y_E_138_21]; rfl
  · have s14 : y_V sp true (d + 1) 14 [y_bo 6 0 1] m = y_rI (N : Int) m := by rw [y_C_14, y_E_14_0, h.1]
    rw [if_neg c, s14, e_bI, z_w_id (by omega) (by omega)]
    by_cases c2 : (N : Int) < x
    · rw [if_pos c2, y_E_138_21]; rfl
    · rw [if_neg c2, if_neg (by omega), y_E_138_21]; rfl
/-- the frame of a way that is read, to the class -/
def u_wc (a k : Nat) : Prop := (a = 1 ∧ 1 ≤ k ∧ k ≤ 6) ∨ (a = 20 ∧ k = 1) ∨ a = 21 ∨ (a = 0 ∧ k = 12)
def u_wk2 (a k : Nat) : Prop := u_wc a k ∨ (a = 23 ∧ k = 1) ∨ a = 24
theorem l_138 {N : Nat} (hU : u_C m L R A B t lw X w) (h : u_Ct m f N) (hn : n ≤ N) (hn' : n ≤ 100) (hH : 1 ≤ L + R) : ∃ p' e' q' m' v5, y_V sp true (d + 6) 138 [y_bo 10 0 0, y_bi (n : Int)] m = (if z_w v5 = 0 then y_R sp true (d + 5) 138 93 [some (y_bo 10 0 0), none] [] m' else y_bI (y_V sp true (d + 5) 18 [y_bo 6 0 1] m') (fun v6 m6 => y_rI (v6 - 10) m6) (fun e m1 => y_px e m1)) ∧ v5 = n_b (decide (e' ≠ 0)) ∧ q_F u_wc m m' ∧ y_mI m' 1 1 = 0 ∧ y_mI m' 0 12 = q' ∧ u_TP m' f n p' e' q' ∧ u_vw (-1) (u_wy f n (L + R) 13 0 t []) m' e' q' := by
  have hN := h.2.1
  have hK := hU.1
  have hb := hK.b
  obtain ⟨-, k0, k1, k2, k3, k4, k5, k6, k7, k8, k9, k10, k11, -⟩ := hK
  obtain ⟨m1, a1, a2, a3⟩ := s_16 (sp := sp) (ph := true) (d := d + 4) h hn
  have ec : y_mc m1 = y_mc m := a2.2.2.1
  have e1 : ∀ j, y_mI m1 (y_mc m) j = y_mI m (y_mc m) j := fun j => q_F_I a2 _ j (fun r => by omega)
  obtain ⟨p', e', q', m2, b1, b2, b3, b4⟩ := s_69 (sp := sp) (ph := true) (d := d) (t := t) hb k7 k8 hH k11 a3 (by rw [e1]; exact k0) (by rw [e1]; exact k1) (by rw [e1]; exact k4)
  have s14 : y_V sp true (d + 5) 14 [y_bo 6 0 1] m = y_rI (N : Int) m := by rw [y_C_14, y_E_14_0, h.1]
  have s15 : y_V sp true (d + 5) 15 [y_bo 6 0 1] m2 = y_rV (y_sI m2 1 1 0) := by rw [y_C_15, y_E_15_0]
  have hT : u_TP (y_sI m2 1 1 0) f n p' e' q' := by
    obtain ⟨g1, g2, g3, g4, g5, g6, g7, g8, g9⟩ := b3
    exact ⟨g1, g2, by rw [e_II' (by omega)]; exact g3, by rw [e_II' (by omega)]; exact g4, by rw [e_II' (by omega)]; exact g5, by rw [e_II' (by omega)]; exact g6, g7, g8, fun i hi => by rw [e_II' (by omega)]; exact g9 i hi⟩
  have s19 : y_V sp true (d + 5) 19 [y_bo 6 0 1] (y_sI m2 1 1 0) = y_rI q' (y_sI m2 1 1 0) := by rw [y_C_19, y_E_19_0, hT.2.2.2.2.2.1]
  have hT2 : u_TP (y_sI (y_sI m2 1 1 0) 0 12 q') f n p' e' q' := u_TP_sI hT (by omega) (by omega)
  have s17 := s_17 (sp := sp) (ph := true) (d := d + 4) hT2
  have F1 : q_F u_wc m m1 := q_F_mono a2 (fun a k r => Or.inl ⟨r.1, by omega, r.2.2⟩)
  have F2 : q_F u_wc m1 m2 := q_F_mono b2 (fun a k r => by unfold u_wf u_tf at r; unfold u_wc; omega)
  have F3 : q_F u_wc m2 (y_sI (y_sI m2 1 1 0) 0 12 q') := q_F_trans (q_F_sI (by unfold u_wc; omega)) (q_F_sI (by unfold u_wc; omega))
  refine ⟨p', e', q', _, _, ?_, rfl, q_F_trans F1 (q_F_trans F2 F3), ?_, e_II, hT2, ?_⟩
  · rw [y_C_138, y_E_138_0, if_neg (by rw [z_w_id (by omega) (by omega)]; omega), s14, e_bI, if_neg (by rw [z_w_id (by omega) (by omega), z_w_id (by omega) (by omega)]; omega), if_pos (by rw [z_w_id (by omega) (by omega)]; omega), y_E_138_31, a1, e_bV, ec, b1, e_bV, s15, e_bV, s19, e_bI, s17, e_bI]
  · rw [e_II' (by omega), e_II]
  · cases hy : u_wy f n (L + R) 13 0 t [] with
    | inl y => rw [hy] at b4; exact b4
    | inr y =>
      rw [hy] at b4
      obtain ⟨c1, c2, c3⟩ := b4
      exact ⟨c1, c2, q_W_F c3 (q_F_trans (q_F_sI (S := fun a _ => a = 0 ∨ a = 1) (m := m2) (a := 1) (k := 1) (x := 0) (Or.inr rfl)) (q_F_sI (Or.inl rfl))) (fun r => by omega) (fun k r => by omega)⟩
theorem s_138e {N : Nat} {x : Int × Int} (hU : u_C m L R A B t lw X w) (h : u_Ct m f N) (hn : n ≤ N) (hn' : n ≤ 100) (hH : 1 ≤ L + R) (hx : u_wy f n (L + R) 13 0 t [] = .inl x) : ∃ m', y_V sp true (d + 6) 138 [y_bo 10 0 0, y_bi (n : Int)] m = y_rI (x.1 - 10) m' ∧ q_F u_wc m m' ∧ y_mI m' 1 1 = 0 ∧ y_mI m' 0 12 = x.2 := by
  obtain ⟨p', e', q', m1, v5, a1, a2, a3, a4, a5, a6, a7⟩ := l_138 (sp := sp) (d := d) hU h hn hn' hH
  rw [hx] at a7
  obtain ⟨b1, b2, b3⟩ := a7
  have s18 : y_V sp true (d + 5) 18 [y_bo 6 0 1] m1 = y_rI e' m1 := by rw [y_C_18, y_E_18_0, a6.2.2.2.2.1]
  refine ⟨m1, ?_, a3, a4, by rw [a5]; exact b2⟩
  rw [a1, a2, decide_eq_true (show e' ≠ 0 by rw [b1]; exact b3), if_neg (by decide), s18, e_bI, b1]
theorem s_138s {N : Nat} {w' : List Nat} (hU : u_C m L R A B t lw X w) (h : u_Ct m f N) (hn : n ≤ N) (hn' : n ≤ 100) (hH : 1 ≤ L + R) (hx : u_wy f n (L + R) 13 0 t [] = .inr w') : ∃ m', y_V sp true (d + 6) 138 [y_bo 10 0 0, y_bi (n : Int)] m = y_rI (w'.length : Int) m' ∧ q_F u_wk2 m m' ∧ y_mI m' 1 1 = 0 ∧ y_mI m' 0 12 = -1 ∧ u_C m' L R A B t lw X w' := by
  obtain ⟨p', e', q', m1, v5, a1, a2, a3, a4, a5, a6, a7⟩ := l_138 (sp := sp) (d := d) hU h hn hn' hH
  rw [hx] at a7
  obtain ⟨b1, b2, b3⟩ := a7
  have hK := hU.1
  obtain ⟨-, k0, k1, k2, k3, k4, k5, k6, k7, k8, k9, k10, k11, -⟩ := hK
  obtain ⟨c1, c2, c3, c4⟩ := u_wy_wh (k := 0) k7 k8 k11 hx
  have wn : w' ≠ [] := fun r => by rw [r] at c3; exact absurd c3 (by decide)
  obtain ⟨m2, d1, d2, d3⟩ := s_173 (sp := sp) (ph := true) (d := d + 1) wn b3
  have F : q_F u_wk2 m m2 := q_F_trans (q_F_mono a3 (fun a k r => Or.inl r)) (q_F_mono d2 (fun a k r => Or.inr r))
  refine ⟨m2, ?_, F, by rw [q_F_I d2 1 1 (fun r => by omega)]; exact a4, by rw [q_F_I d2 0 12 (fun r => by omega), a5]; exact b2, u_C_way hU F (fun a k r => by unfold u_wk2 u_wc at r; omega) d3 c1 c2 (Or.inr c3)⟩
  rw [a1, a2, b1, if_pos (by decide), y_E_138_93, d1, e_bI]
end Way
