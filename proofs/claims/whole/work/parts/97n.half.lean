section Half
variable {L R A B : Nat} {E F : List (Nat × Nat)} {z : Int}
/-- the side of the middle that a part of a way ends on -/
theorem m_half (hB : m_B L R A B) (hE : m_E L R E) (hF : m_E L R F) (hle : ∀ k, k < 6 → q_dec false (w_code L A B F) k ≤ q_dec false (w_code L A B E) k) (hz : -2000 ≤ z) (hz' : z ≤ 2000) : q_box (q_d2 (w_code L A B F) z (w_code L A B E)) ∧ q_sn false A B (q_d2 (w_code L A B F) z (w_code L A B E)) = if 64 < 2 * m_S 0 L A B F + z * 281474976710656 - m_S 0 L A B E then 1 else if 2 * m_S 0 L A B F + z * 281474976710656 - m_S 0 L A B E < -64 then -1 else 0 := by
  obtain ⟨d1, d2, d3⟩ := m_dec_D false hB hE
  obtain ⟨f1, f2, f3⟩ := m_dec_D false hB hF
  have hfE := m_dec_fx false hB hE
  have hfF := m_dec_fx false hB hF
  have l0 := hle 0 (by omega)
  have l1 := hle 1 (by omega)
  have l2 := hle 2 (by omega)
  have l3 := hle 3 (by omega)
  have l4 := hle 4 (by omega)
  have l5 := hle 5 (by omega)
  have eS : ∀ G, w_S (w_f false L A B) G = m_S 0 L A B G := fun G => by rw [m_S_eq]; rfl
  rw [eS] at hfE hfF
  have hbox : q_box (q_d2 (w_code L A B F) z (w_code L A B E)) := by
    have w := w_wh_le (A := A) (B := B) hB.1 hB.2.1 hB.2.2.2.1 hB.2.2.2.2.2.1 (w_okb hE.1)
    have hl := hE.2
    have g0 := d1 0 (by decide)
    unfold w_d at g0
    simp only [reduceIte, Bool.false_eq_true] at g0
    unfold q_box q_pos at *
    unfold q_d2
    simp only [reduceIte, show ¬ (1 : Nat) = 0 by decide, show ¬ (2 : Nat) = 0 by decide, show ¬ (3 : Nat) = 0 by decide, show ¬ (4 : Nat) = 0 by decide, show ¬ (5 : Nat) = 0 by decide]
    omega
  have hx : q_fx false A B (q_d2 (w_code L A B F) z (w_code L A B E)) = 2 * m_S 0 L A B F + z * 281474976710656 - m_S 0 L A B E := by
    rw [← hfE, ← hfF]
    unfold q_fx q_d2
    simp only [reduceIte, show ¬ (1 : Nat) = 0 by decide, show ¬ (2 : Nat) = 0 by decide, show ¬ (3 : Nat) = 0 by decide, show ¬ (4 : Nat) = 0 by decide, show ¬ (5 : Nat) = 0 by decide, show q_TT false = 281474976710656 from rfl, Int.add_zero]
    generalize q_dec false (w_code L A B F) = p
    generalize q_dec false (w_code L A B E) = t
    generalize ((q_cc false A B 1 : Nat) : Int) = c1
    generalize ((q_cc false A B 2 : Nat) : Int) = c2
    generalize ((q_cc false A B 3 : Nat) : Int) = c3
    generalize ((q_cc false A B 4 : Nat) : Int) = c4
    generalize ((q_cc false A B 5 : Nat) : Int) = c5
    grind
  have sep := q_sep false hB.2.2.2.2.2.2.1 hB.2.2.1 hB.2.2.2.2.2.2.2 hbox
  rw [hx] at sep
  exact ⟨hbox, sep⟩
end Half
