section Knot
variable {sp : Nat → Nat} {ph : Bool} {d : Nat} {m m' : y_m} {L R A B t lw X : Nat} {w : List Nat}
theorem w_f_nn {x y : Nat} : 0 ≤ w_f false L A B (w_e x y) := by
  rw [w_f_e, if_neg (by decide)]
  unfold r_len
  split
  · unfold w_ln
    split <;> omega
  · have : 0 ≤ (((r_gap L x y * B : Nat) : Int)) := Int.natCast_nonneg _
    omega
theorem w_f_le {x y : Nat} (hB : m_B L R A B) (hx : x < L + R) (hy : y < L + R) : w_f false L A B (w_e x y) ≤ 288230376151800000 := by
  have bb := (m_S_b (what := 0) hB (E := [w_e x y]) (fun e he => by
    rw [List.mem_singleton] at he
    subst he
    unfold w_e
    split
    · exact ⟨hx, hy⟩
    · exact ⟨hy, hx⟩)).2
  have hS : m_S 0 L A B [w_e x y] = w_f false L A B (w_e x y) := by
    show m_w 0 L A B (w_e x y) + 0 = _
    unfold m_w
    rw [if_neg (by decide), if_neg (by decide), Int.add_zero]
  rw [hS, List.length_singleton] at bb
  omega
theorem s_161 {x y s : Nat} {u : List Nat} (hU : u_C m L R A B t lw X w) (hw : w = s :: u) (hx : x ≤ 999) (hy : y ≤ 1) : y_V sp ph (d + 6) 161 [y_bo 10 0 0, y_bi (x : Int), y_bi (y : Int)] m = y_rI (u_kc (q_len (y_mJ m 4) L B w) (m_S 0 L A B (m_eu s s u)) (2 * (x : Int) * 281474976710656) (decide (y = 1)) w.length 0 0 (-1)) m := by
  obtain ⟨hK, -, hQ, -⟩ := hU
  have hn : w ≠ [] := by rw [hw]; exact List.cons_ne_nil _ _
  obtain ⟨s', u', hw', -, hE, hel, hlt, -⟩ := c_K_E hK hn
  have hsu : s' = s ∧ u' = u := by rw [hw] at hw'; exact ⟨(List.cons.inj hw').1.symm, (List.cons.inj hw').2.symm⟩
  rw [hsu.1, hsu.2] at hE hel hlt
  have hwb := u_w12 hK
  have hB := hQ.1
  rw [l_161 (d := d + 4) hK hn hx hy]
  obtain ⟨g1, g2, g3, g4, g5, g6, g7, g8, g9, g10, g11, g12, g13, g14, h15, -⟩ := hK
  have nn := (m_nn hB hE).1
  have b0 := (m_S_b (what := 0) hB (E := m_eu s s u) (fun e he => by have := hE.1.2 e he; omega)).2
  have s54 := s_54 (sp := sp) (ph := ph) (d := d) (m := m) (a := 23) (b := y_mc m) (w := w) (R := R) (B := B) h15 hn hwb g2 hB.1 hB.2.1 hQ.2.2.2.2.2.1 hB.2.2.2.2.2.1
  have el := m_len_w (s := s) (u := u) hQ hlt
  rw [← hw] at el
  rw [el] at s54
  have hg : ∀ i, i < w.length → 0 ≤ q_len (y_mJ m 4) L B w i ∧ q_len (y_mJ m 4) L B w i ≤ 288230376151800000 := fun i hi => by
    have q1 := hwb _ (q_at_mem (w := w) (i := (i : Int)) hn)
    have q2 := hwb _ (q_at_mem (w := w) (i := (i : Int) + 1) hn)
    have e : q_len (y_mJ m 4) L B w i = w_f false L A B (w_e (q_at w (i : Int)) (q_at w ((i : Int) + 1))) := (r_len_Q hQ q1 q2).1
    rw [e]
    exact ⟨w_f_nn, w_f_le hB q1 q2⟩
  have zx : z_w (x : Int) = (x : Int) := z_w_id (by omega) (by omega)
  have hsh : z_lshl (2 * (x : Int)) 48 = 2 * (x : Int) * 281474976710656 := n_lshl48 (by omega) (by omega)
  have l := l_60 (sp := sp) (ph := ph) (d := d + 1) (m := m) (a := 23) (b := y_mc m) (w := w) (R := R) (T := m_S 0 L A B (m_eu s s u)) (Y := 2 * (x : Int) * 281474976710656) (last := decide (y = 1)) h15 hn hwb g2 hB.1 hB.2.1 hQ.2.2.2.2.2.1 hB.2.2.2.2.2.1 hg ⟨nn, by omega⟩ ⟨by omega, by omega⟩ w.length 0 0 (-1) (by omega) (by omega) (by omega) (by omega) (by omega)
  have ey : n_b (decide (y = 1)) = (y : Int) := by
    rcases (show y = 0 ∨ y = 1 by omega) with rfl | rfl <;> rfl
  rw [ey] at l
  have l' : y_R sp ph (d + 4) 60 28 [some (y_bo 4 0 3), some (y_bo 0 0 (y_mc m)), some (y_bo 8 0 23), none, some (y_bi (y : Int)), some (y_bl (m_S 0 L A B (m_eu s s u))), none, some (y_bl (2 * (x : Int) * 281474976710656)), none, some (y_bl 0), none, some (y_bi (-1)), some (y_bi 0), none, none, none, none] [] m = _ := l
  rw [y_C_60, y_E_60_0, s54, e_bL, zx, hsh, l', e_bI]
end Knot
