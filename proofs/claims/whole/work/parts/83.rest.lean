/-! ===== what is left of the holes when some places have been ===== -/
def r_rest (S been : Nat) : Nat := q_bits ((n_bits S).filter (fun h => decide (1 ≤ r_ix S h) && !been.testBit (r_ix S h - 1)))
theorem n_bits_mem {S h : Nat} : h ∈ n_bits S ↔ h < 12 ∧ S.testBit h = true := by
  unfold n_bits
  rw [List.mem_filter, List.mem_range]
theorem n_tb_lt {S h : Nat} (hS : S < 4096) (hb : S.testBit h = true) : h < 12 := by
  rcases Nat.lt_or_ge h 12 with q | q
  · exact q
  · rw [Nat.testBit_lt_two_pow (Nat.lt_of_lt_of_le hS (Nat.pow_le_pow_right (n := 2) (by decide) q))] at hb; cases hb
theorem r_rest_bit {S been h : Nat} (hS : S < 4096) : (r_rest S been).testBit h = true ↔ S.testBit h = true ∧ 1 ≤ r_ix S h ∧ been.testBit (r_ix S h - 1) = false := by
  unfold r_rest
  rw [q_bits_bit, decide_eq_true_iff, List.mem_filter, n_bits_mem, Bool.and_eq_true, decide_eq_true_iff, Bool.not_eq_true']
  constructor
  · rintro ⟨⟨_, a⟩, b, c⟩; exact ⟨a, b, c⟩
  · rintro ⟨a, b, c⟩; exact ⟨⟨n_tb_lt hS a, a⟩, b, c⟩
theorem r_rest_lt (S been : Nat) : r_rest S been < 4096 := q_bits_lt fun h hm => (n_bits_mem.mp (List.mem_filter.mp hm).1).1
theorem n_eq_of {a b : Nat} (h : ∀ j, a.testBit j = true ↔ b.testBit j = true) : a = b := by
  refine Nat.eq_of_testBit_eq fun j => ?_
  have := h j
  cases q : a.testBit j <;> cases r : b.testBit j
  · rfl
  · rw [q, r] at this; exact absurd (this.mpr rfl) (by decide)
  · rw [q, r] at this; exact absurd (this.mp rfl) (by decide)
  · rfl
theorem r_hs_0 (S : Nat) : r_hs S 0 = n_low S := by
  unfold r_hs n_low
  cases n_bits S <;> rfl
theorem r_rest_0 {S : Nat} (hS : S < 4096) (hk : 0 < n_pop S) : r_rest S 0 = w_rm S (n_low S) := by
  refine n_eq_of fun h => ?_
  obtain ⟨b1, b2, b3⟩ := r_hs_B hk
  rw [r_rest_bit hS, w_rm_bit, Bool.and_eq_true, decide_eq_true_iff, Nat.zero_testBit]
  rw [r_hs_0] at b2 b3
  constructor
  · rintro ⟨a, b, _⟩
    refine ⟨a, fun e => ?_⟩
    rw [e, b3] at b
    omega
  · rintro ⟨a, b⟩
    refine ⟨a, ?_, rfl⟩
    rcases Nat.eq_zero_or_pos (r_ix S h) with q | q
    · have := r_hs_ix a (n_tb_lt hS a)
      rw [q, r_hs_0] at this
      exact absurd this.symm b
    · exact q
theorem r_ix_hs {S j h : Nat} (hS : S < 4096) (hj : j < n_pop S) (hb : S.testBit h = true) : r_ix S h = j ↔ h = r_hs S j := by
  constructor
  · intro e
    rw [← e]; exact (r_hs_ix hb (n_tb_lt hS hb)).symm
  · intro e
    rw [e]; exact (r_hs_B hj).2.2
theorem r_rest_or {S been j : Nat} (hS : S < 4096) (h1 : 1 ≤ j) (hj : j < n_pop S) : r_rest S (been ||| 1 <<< (j - 1)) = w_rm (r_rest S been) (r_hs S j) := by
  refine n_eq_of fun h => ?_
  rw [r_rest_bit hS, w_rm_bit, Bool.and_eq_true, decide_eq_true_iff, r_rest_bit hS, Nat.testBit_or, Nat.one_shiftLeft, Nat.testBit_two_pow]
  constructor
  · rintro ⟨a, b, c⟩
    rw [Bool.or_eq_false_iff] at c
    refine ⟨⟨a, b, c.1⟩, fun e => ?_⟩
    have := (r_ix_hs hS hj a).mpr e
    have := of_decide_eq_false c.2
    omega
  · rintro ⟨⟨a, b, c⟩, e⟩
    refine ⟨a, b, ?_⟩
    rw [Bool.or_eq_false_iff]
    refine ⟨c, decide_eq_false fun q => e ((r_ix_hs hS hj a).mp (by omega))⟩
theorem r_rest_hs {S been j : Nat} (hS : S < 4096) (h1 : 1 ≤ j) (hj : j < n_pop S) : (r_rest S been).testBit (r_hs S j) = true ↔ been.testBit (j - 1) = false := by
  obtain ⟨b1, b2, b3⟩ := r_hs_B hj
  rw [r_rest_bit hS, b3]
  exact ⟨fun h => h.2.2, fun h => ⟨b2, h1, h⟩⟩
/-- a sum over the holes that are left, by places -/
theorem r_sum {S been : Nat} {G : Nat → Int} (hS : S < 4096) (hk : 0 < n_pop S) (hG : ∀ h, (r_rest S been).testBit h ≠ true → G h = 0) : ∀ N, N ≤ 12 → 1 ≤ r_ix S N → q_S G 0 N = q_S (fun j => G (r_hs S j)) 1 (r_ix S N - 1) := by
  intro N hN h1
  have e : q_S G 0 N = q_S (fun h => if S.testBit h = true then G h else 0) 0 N := by
    refine q_S_congr _ _ fun h _ _ => ?_
    by_cases q : S.testBit h = true
    · rw [if_pos q]
    · rw [if_neg q]
      exact hG h fun r => q ((r_rest_bit hS).mp r).1
  rw [e, q_S_ix G N hN]
  have z : G (r_hs S 0) = 0 := hG _ fun r => by
    have := ((r_rest_bit hS).mp r).2.1
    rw [(r_hs_B hk).2.2] at this
    omega
  obtain ⟨f, hf⟩ : ∃ f, r_ix S N = f + 1 := ⟨r_ix S N - 1, by omega⟩
  rw [hf, q_S, z, Int.zero_add, Nat.add_sub_cancel]
theorem c_f2_0 {L lw s sec rest last : Nat} {first i : Bool} : ∀ h, rest.testBit h ≠ true → c_f2 L lw s sec first rest last i h = 0 := by
  intro h q
  unfold c_f2
  rw [if_neg fun e => q e.1]
theorem c_f1_0 {L lw s rest : Nat} : ∀ h, rest.testBit h ≠ true → c_f1 L lw s rest h = 0 := by
  intro h q
  unfold c_f1
  rw [if_neg q]
theorem c_N_ix {L lw s sec S been now : Nat} {first i : Bool} (hS : S < 4096) (hk : 0 < n_pop S) (hr : 0 < n_pop (r_rest S been)) : c_N L lw s sec first (n_pop (r_rest S been)) now i (r_rest S been) = q_S (fun j => c_f2 L lw s sec first (r_rest S been) now i (r_hs S j)) 1 (n_pop S - 1) := by
  rw [c_N_f2 hr]
  exact r_sum hS hk c_f2_0 12 (Nat.le_refl _) hk
theorem r_rest_all {S been : Nat} (hS : S < 4096) (hk : 0 < n_pop S) (hb : been < 2 ^ (n_pop S - 1)) : n_pop (r_rest S been) = 0 ↔ been = 2 ^ (n_pop S - 1) - 1 := by
  constructor
  · intro h
    have z := n_pop_0 (r_rest_lt S been) h
    refine Nat.eq_of_testBit_eq fun i => ?_
    rw [Nat.testBit_two_pow_sub_one]
    by_cases q : i < n_pop S - 1
    · rw [decide_eq_true q]
      have := r_rest_hs (been := been) hS (j := i + 1) (by omega) (by omega)
      rw [z, Nat.zero_testBit, Nat.add_sub_cancel] at this
      cases r : been.testBit i
      · exact absurd (this.mpr r) (by decide)
      · rfl
    · rw [decide_eq_false q]
      exact Nat.testBit_lt_two_pow (Nat.lt_of_lt_of_le hb (Nat.pow_le_pow_right (by decide) (by omega)))
  · intro h
    rcases Nat.eq_zero_or_pos (n_pop (r_rest S been)) with q | q
    · exact q
    · have h0 : 0 < r_rest S been := by
        rcases Nat.eq_zero_or_pos (r_rest S been) with r | r
        · rw [r, show n_pop 0 = 0 from by decide] at q; omega
        · exact r
      have lo := (w_low (r_rest_lt S been) h0).2.2.1
      obtain ⟨a, b, c⟩ := (r_rest_bit hS).mp lo
      generalize n_low (r_rest S been) = x at a b c
      rw [h, Nat.testBit_two_pow_sub_one] at c
      have hlt := r_ix_lt a (n_tb_lt hS a)
      rw [r_ix_12] at hlt
      have := of_decide_eq_false c
      omega
