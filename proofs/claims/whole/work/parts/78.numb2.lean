theorem q_mi_min {w : List Nat} : ∀ (n i x : Nat), x < i → (∀ j, j < i → q_at w (x : Int) ≤ q_at w (j : Int)) → ∀ j, j < i + n → q_at w ((q_mi w n i x : Nat) : Int) ≤ q_at w (j : Int) := by
  intro n
  induction n with
  | zero => intro i x hx h j hj; exact h j hj
  | succ n ih =>
    intro i x hx h j hj
    rw [q_mi]
    by_cases q : q_at w (x : Int) ≤ q_at w (i : Int)
    · rw [if_pos q]
      refine ih (i + 1) x (by omega) (fun k hk => ?_) j (by omega)
      by_cases e : k = i
      · rw [e]; exact q
      · exact h k (by omega)
    · rw [if_neg q]
      refine ih (i + 1) i (by omega) (fun k hk => ?_) j (by omega)
      by_cases e : k = i
      · rw [e]; exact Nat.le_refl _
      · have := h k (by omega)
        omega
theorem q_sx_lt {w : List Nat} (h : w ≠ []) : q_sx w < w.length := by
  have hl := List.length_pos_iff.mpr h
  exact q_mi_lt _ _ _ hl (by omega)
theorem q_mem_at {w : List Nat} {h : Nat} (hm : h ∈ w) : ∃ i, i < w.length ∧ q_at w (i : Int) = h := by
  obtain ⟨i, hi, e⟩ := List.mem_iff_getElem.mp hm
  refine ⟨i, hi, ?_⟩
  rw [q_at_nat hi, List.getD_eq_getElem?_getD, List.getElem?_eq_getElem hi]
  exact e
theorem q_sx_min {w : List Nat} {h : Nat} (hm : h ∈ w) : q_at w (q_sx w : Int) ≤ h := by
  obtain ⟨i, hi, e⟩ := q_mem_at hm
  have hl : 0 < w.length := by omega
  rw [← e]
  exact q_mi_min (w.length - 1) 1 0 (by omega) (fun j hj => by rw [show j = 0 by omega]; exact Nat.le_refl _) i (by omega)
theorem q_own_mem {w : List Nat} {h : Nat} : h ∈ q_own w ↔ h ∈ w := by
  by_cases hn : w = []
  · subst hn; simp [q_own]
  have hl := List.length_pos_iff.mpr hn
  unfold q_own
  rw [List.mem_map]
  constructor
  · rintro ⟨j, _, e⟩
    rw [← e]; exact q_at_mem hn
  · intro hm
    obtain ⟨i, hi, e⟩ := q_mem_at hm
    have hx := q_sx_lt hn
    have go : ∀ y : Int, y % (w.length : Int) = (i : Int) % (w.length : Int) → q_at w y = h := by
      intro y hy
      rw [← e]
      unfold q_at
      rw [hy]
    rcases q_sd_or w with D | D
    · by_cases q : q_sx w ≤ i
      · refine ⟨i - q_sx w, List.mem_range.mpr (by omega), ?_⟩
        refine go _ ?_
        rw [D]
        congr 1
        omega
      · refine ⟨i + w.length - q_sx w, List.mem_range.mpr (by omega), ?_⟩
        refine go _ ?_
        rw [D, show (q_sx w : Int) + 1 * ((i + w.length - q_sx w : Nat) : Int) = i + w.length by omega, Int.add_emod_right]
    · by_cases q : i ≤ q_sx w
      · refine ⟨q_sx w - i, List.mem_range.mpr (by omega), ?_⟩
        refine go _ ?_
        rw [D]
        congr 1
        omega
      · refine ⟨q_sx w + w.length - i, List.mem_range.mpr (by omega), ?_⟩
        refine go _ ?_
        rw [D, ← Int.add_emod_right, show (q_sx w : Int) + -1 * ((q_sx w + w.length - i : Nat) : Int) + w.length = i by omega]
def q_tl (w : List Nat) : List Nat := (List.range (w.length - 1)).map (fun j => q_oj w (j + 1))
theorem q_own_cons {w : List Nat} (h : w ≠ []) : q_own w = q_at w (q_sx w : Int) :: q_tl w := by
  have hl := List.length_pos_iff.mpr h
  unfold q_own q_tl
  rw [show w.length = (w.length - 1) + 1 by omega, List.range_succ_eq_map, List.map_cons, List.map_map, Nat.add_sub_cancel]
  congr 1
  unfold q_oj
  simp
theorem q_bits_own (w : List Nat) : q_bits (q_own w) = q_bits w := by
  refine Nat.eq_of_testBit_eq fun j => ?_
  rw [q_bits_bit, q_bits_bit]
  by_cases q : j ∈ w
  · rw [decide_eq_true q, decide_eq_true (q_own_mem.mpr q)]
  · rw [decide_eq_false q, decide_eq_false (fun e => q (q_own_mem.mp e))]
theorem q_low_own {w : List Nat} (hn : w ≠ []) (hb : ∀ h ∈ w, h < 12) : n_low (q_bits w) = q_at w (q_sx w : Int) := by
  have hS := q_bits_lt hb
  have hbit : (q_bits w).testBit (q_at w (q_sx w : Int)) = true := by rw [q_bits_bit]; exact decide_eq_true (q_at_mem hn)
  have hS0 : 0 < q_bits w := by
    rcases Nat.eq_zero_or_pos (q_bits w) with q | q
    · rw [q] at hbit; simp at hbit
    · exact q
  obtain ⟨_, l2, l3, l4⟩ := w_low hS hS0
  have h12 := hb _ (q_at_mem (i := (q_sx w : Int)) hn)
  rw [q_bits_bit] at l3
  have := q_sx_min (of_decide_eq_true l3)
  rcases Nat.lt_or_ge (q_at w (q_sx w : Int)) (n_low (q_bits w)) with q | q
  · rw [l4 _ h12 q] at hbit; cases hbit
  · omega
/-- the number of a round -/
def c_num (L lw : Nat) (w : List Nat) : Int := c_rk1 L lw (n_low (q_bits w)) (w_rm (q_bits w) (n_low (q_bits w))) (q_tl w)
/-- what the class knows of its boot and its way -/
def c_K (m : y_m) (L R A B t lw X : Nat) (w : List Nat) : Prop := (y_mc m = 29 ∨ y_mc m = 30) ∧ (y_mI m (y_mc m) 0 = L) ∧ (y_mI m (y_mc m) 1 = R) ∧ (y_mI m (y_mc m) 2 = A) ∧ (y_mI m (y_mc m) 3 = B) ∧ (y_mI m (y_mc m) 4 = t) ∧ (y_mI m (y_mc m) 5 = lw) ∧ (y_mI m (y_mc m) 6 = X) ∧ (L ≤ 6) ∧ (R ≤ 6) ∧ (A ≤ 99) ∧ (B ≤ 99) ∧ (t < 4096) ∧ (lw ≤ 2) ∧ (q_W m 23 w) ∧ (∀ h ∈ w, (c_wh L R t).testBit h = true) ∧ (w.Nodup) ∧ (w = [] ∨ 3 ≤ w.length)
section K
variable {m : y_m} {L R A B t lw X : Nat} {w : List Nat}
theorem c_K.b (h : c_K m L R A B t lw X w) : y_mc m = 29 ∨ y_mc m = 30 := h.1
theorem c_K.eL (h : c_K m L R A B t lw X w) : y_mI m (y_mc m) 0 = L := h.2.1
theorem c_K.eR (h : c_K m L R A B t lw X w) : y_mI m (y_mc m) 1 = R := h.2.2.1
theorem c_K.eA (h : c_K m L R A B t lw X w) : y_mI m (y_mc m) 2 = A := h.2.2.2.1
theorem c_K.eB (h : c_K m L R A B t lw X w) : y_mI m (y_mc m) 3 = B := h.2.2.2.2.1
theorem c_K.et (h : c_K m L R A B t lw X w) : y_mI m (y_mc m) 4 = t := h.2.2.2.2.2.1
theorem c_K.ew (h : c_K m L R A B t lw X w) : y_mI m (y_mc m) 5 = lw := h.2.2.2.2.2.2.1
theorem c_K.eX (h : c_K m L R A B t lw X w) : y_mI m (y_mc m) 6 = X := h.2.2.2.2.2.2.2.1
theorem c_K.l6 (h : c_K m L R A B t lw X w) : L ≤ 6 := h.2.2.2.2.2.2.2.2.1
theorem c_K.r6 (h : c_K m L R A B t lw X w) : R ≤ 6 := h.2.2.2.2.2.2.2.2.2.1
theorem c_K.a99 (h : c_K m L R A B t lw X w) : A ≤ 99 := h.2.2.2.2.2.2.2.2.2.2.1
theorem c_K.b99 (h : c_K m L R A B t lw X w) : B ≤ 99 := h.2.2.2.2.2.2.2.2.2.2.2.1
theorem c_K.t4 (h : c_K m L R A B t lw X w) : t < 4096 := h.2.2.2.2.2.2.2.2.2.2.2.2.1
theorem c_K.w2 (h : c_K m L R A B t lw X w) : lw ≤ 2 := h.2.2.2.2.2.2.2.2.2.2.2.2.2.1
theorem c_K.W (h : c_K m L R A B t lw X w) : q_W m 23 w := h.2.2.2.2.2.2.2.2.2.2.2.2.2.2.1
theorem c_K.mem (h : c_K m L R A B t lw X w) : ∀ h ∈ w, (c_wh L R t).testBit h = true := h.2.2.2.2.2.2.2.2.2.2.2.2.2.2.2.1
theorem c_K.nd (h : c_K m L R A B t lw X w) : w.Nodup := h.2.2.2.2.2.2.2.2.2.2.2.2.2.2.2.2.1
theorem c_K.len (h : c_K m L R A B t lw X w) : w = [] ∨ 3 ≤ w.length := h.2.2.2.2.2.2.2.2.2.2.2.2.2.2.2.2.2
end K
theorem c_K_lt {m : y_m} {L R A B t lw X : Nat} {w : List Nat} (h : c_K m L R A B t lw X w) : ∀ x ∈ w, x < L + R := fun x hx => by
  have := h.mem x hx
  rw [c_wh_bit, Bool.and_eq_true] at this
  exact of_decide_eq_true this.1
theorem c_K_12 {m : y_m} {L R A B t lw X : Nat} {w : List Nat} (h : c_K m L R A B t lw X w) : ∀ x ∈ w, x < 12 := fun x hx => by
  have := c_K_lt h x hx
  have := h.l6
  have := h.r6
  omega
