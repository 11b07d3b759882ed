/-- a pick over the holes is a pick over their places -/
theorem c_pk_ix {S : Nat} {G : Nat → Int} (hG : ∀ h, S.testBit h ≠ true → G h = 0) (hG0 : ∀ h, 0 ≤ G h) : ∀ (n N : Nat) (left : Int), N + n = 12 → 0 ≤ left → (c_pk G n N left).2 = (c_pk (fun j => G (r_hs S j)) (n_pop S - r_ix S N) (r_ix S N) left).2 ∧ (c_pk G n N left).1 = (if (c_pk (fun j => G (r_hs S j)) (n_pop S - r_ix S N) (r_ix S N) left).1 < n_pop S then r_hs S (c_pk (fun j => G (r_hs S j)) (n_pop S - r_ix S N) (r_ix S N) left).1 else 12) := by
  intro n
  induction n with
  | zero =>
    intro N left hN h0
    have : N = 12 := by omega
    subst this
    rw [r_ix_12, Nat.sub_self, c_pk, c_pk]
    refine ⟨rfl, ?_⟩
    dsimp only
    rw [if_neg (Nat.lt_irrefl _)]
  | succ n ih =>
    intro N left hN h0
    have hx := r_ix_succ S N
    rw [c_pk]
    by_cases q : S.testBit N = true
    · rw [if_pos q] at hx
      have hlt := r_ix_lt q (show N < 12 by omega)
      rw [r_ix_12] at hlt
      have e : n_pop S - r_ix S N = (n_pop S - r_ix S (N + 1)) + 1 := by omega
      have hh := r_hs_ix q (show N < 12 by omega)
      rw [e, c_pk]
      try dsimp only
      rw [hh]
      by_cases c : left < G N
      · rw [if_pos c, if_pos c]
        dsimp only
        rw [if_pos hlt, hh]
        exact ⟨rfl, rfl⟩
      · rw [if_neg c, if_neg c, ← hx]
        exact ih (N + 1) (left - G N) (by omega) (by omega)
    · rw [if_neg q] at hx
      have hx : r_ix S (N + 1) = r_ix S N := by omega
      have z := hG N q
      rw [z, if_neg (by omega), Int.sub_zero, ← hx]
      exact ih (N + 1) left (by omega) h0
/-- the first place is never picked -/
theorem c_pk_ix1 {S been : Nat} {G : Nat → Int} (hS : S < 4096) (hk : 0 < n_pop S) (hG : ∀ h, (r_rest S been).testBit h ≠ true → G h = 0) (hG0 : ∀ h, 0 ≤ G h) {left : Int} (h0 : 0 ≤ left) : (c_pk G 12 0 left).2 = (c_pk (fun j => G (r_hs S j)) (n_pop S - 1) 1 left).2 ∧ (c_pk G 12 0 left).1 = (if (c_pk (fun j => G (r_hs S j)) (n_pop S - 1) 1 left).1 < n_pop S then r_hs S (c_pk (fun j => G (r_hs S j)) (n_pop S - 1) 1 left).1 else 12) := by
  have a := c_pk_ix (S := S) (G := G) (fun h q => hG h fun r => q ((r_rest_bit hS).mp r).1) hG0 12 0 left rfl h0
  have e0 : r_ix S 0 = 0 := rfl
  have z : G (r_hs S 0) = 0 := hG _ fun r => by
    have := ((r_rest_bit hS).mp r).2.1
    rw [(r_hs_B hk).2.2] at this
    omega
  obtain ⟨k, hke⟩ : ∃ k, n_pop S = k + 1 := ⟨n_pop S - 1, by omega⟩
  rw [e0, Nat.sub_zero] at a
  have e : c_pk (fun j => G (r_hs S j)) (n_pop S) 0 left = c_pk (fun j => G (r_hs S j)) (n_pop S - 1) 1 left := by
    rw [hke, c_pk, Nat.add_sub_cancel]
    try dsimp only
    rw [z, if_neg (by omega), Int.sub_zero]
  rw [e] at a
  exact a
