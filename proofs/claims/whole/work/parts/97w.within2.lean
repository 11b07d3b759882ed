/-! ===== within, guess: laws all around; both lists ===== -/
section Around
variable {P : List (Nat × Nat)} {L lw : Nat} {one : Bool}
theorem u_xcl_lb {v : List Nat} : ∀ (t : List Nat) (p last : Nat), v.drop p = last :: t → p + t.length + 1 = v.length → u_xcl L lw (some (q_ac L v ((p : Int) - 1))) last t = u_lb L lw v t.length p ∧ u_fa L (some (q_ac L v ((p : Int) - 1))) last t = some (q_ac L v ((p : Int) + (t.length : Int) - 1))
  | [], p, last, hd, hl => ⟨rfl, by show some _ = some _; rw [List.length_nil, show (p : Int) + ((0 : Nat) : Int) - 1 = (p : Int) - 1 by omega]⟩
  | h :: t, p, last, hd, hl => by
    have hl' : p + (t.length + 1) + 1 = v.length := hl
    have hc := List.drop_eq_getElem_cons (show p < v.length by omega)
    rw [hd] at hc
    obtain ⟨c1, c2⟩ := List.cons.inj hc
    have hc2 := List.drop_eq_getElem_cons (show p + 1 < v.length by omega)
    rw [← c2] at hc2
    have e1 : q_at v (p : Int) = last := by
      rw [q_at_nat (by omega), List.getD_eq_getElem?_getD, List.getElem?_eq_getElem (by omega)]
      exact c1.symm
    have e2 : q_at v ((p : Int) + 1) = h := by
      rw [show (p : Int) + 1 = ((p + 1 : Nat) : Int) by omega, q_at_nat (by omega), List.getD_eq_getElem?_getD, List.getElem?_eq_getElem (by omega)]
      exact (List.cons.inj hc2).1.symm
    have ea : r_x L last h = q_ac L v (p : Int) := by unfold q_ac; rw [e1, e2]
    obtain ⟨i1, i2⟩ := u_xcl_lb t (p + 1) h c2.symm (by omega)
    rw [show ((p + 1 : Nat) : Int) - 1 = (p : Int) by omega] at i1 i2
    constructor
    · show (u_ma lw (some (q_ac L v ((p : Int) - 1))) (r_x L last h) && u_xcl L lw (some (r_x L last h)) h t) = u_lb L lw v (t.length + 1) p
      rw [ea, i1, u_lb]; rfl
    · show u_fa L (some (r_x L last h)) h t = _
      rw [ea, i2]
      refine congrArg some (congrArg (q_ac L v) ?_)
      rw [List.length_cons]; omega
theorem u_lb_snoc {v : List Nat} : ∀ (k i : Nat), u_lb L lw v (k + 1) i = (u_lb L lw v k i && r_may lw (q_ac L v (((i + k : Nat) : Int) - 1)) (q_ac L v ((i + k : Nat) : Int)))
  | 0, i => by rw [u_lb, u_lb, u_lb, Nat.add_zero, Bool.and_true, Bool.true_and]
  | k + 1, i => by
    rw [u_lb, u_lb_snoc k (i + 1), u_lb, Bool.and_assoc, show i + 1 + k = i + (k + 1) by omega]
theorem q_at_len {v : List Nat} {i : Int} : q_at v (i + (v.length : Int)) = q_at v i := by
  unfold q_at
  rw [Int.add_emod_right]
theorem u_law {s h : Nat} {t : List Nat} : (u_xcl L lw none s (h :: t) = true ∧ u_ho L lw one (s :: h :: t) (u_fa L none s (h :: t))) ↔ (u_la L lw (s :: h :: t) = true ∧ (one = true → h < u_wl (s :: h :: t))) := by
  generalize hv : s :: h :: t = v
  have hlen : v.length = t.length + 2 := by rw [← hv]; rfl
  have hn : v ≠ [] := by rw [← hv]; exact List.cons_ne_nil _ _
  have e0 : q_at v 0 = s := by
    have := q_at_nat (w := v) (i := 0) (by omega)
    rw [show ((0 : Nat) : Int) = 0 from rfl] at this
    rw [this, ← hv]; rfl
  have e1 : q_at v 1 = h := by
    have := q_at_nat (w := v) (i := 1) (by omega)
    rw [show ((1 : Nat) : Int) = 1 from rfl] at this
    rw [this, ← hv]; rfl
  have a0 : r_x L s h = q_ac L v 0 := by
    unfold q_ac
    rw [show (0 : Int) + 1 = 1 from rfl, e0, e1]
  have lst : u_wl v = q_at v ((v.length : Int) - 1) := by
    unfold u_wl
    rw [← q_at_nat (by omega), show ((v.length - 1 : Nat) : Int) = (v.length : Int) - 1 by omega]
  have g0 : v.getD 0 0 = s := by rw [← hv]; rfl
  have g1 : v.getD 1 0 = h := by rw [← hv]; rfl
  have ah : r_x L (u_wl v) s = q_ac L v ((v.length : Int) - 1) := by
    unfold q_ac
    have := q_at_len (v := v) (i := 0)
    rw [Int.zero_add] at this
    rw [lst, show (v.length : Int) - 1 + 1 = (v.length : Int) by omega, this, e0]
  have am : q_ac L v (-1) = q_ac L v ((v.length : Int) - 1) := by
    unfold q_ac
    have x1 := q_at_len (v := v) (i := -1)
    have x2 := q_at_len (v := v) (i := 0)
    rw [show (v.length : Int) - 1 = -1 + (v.length : Int) by omega, x1, show (-1 : Int) + (v.length : Int) + 1 = 0 + (v.length : Int) by omega, x2]; rfl
  have hd : v.drop 1 = h :: t := by rw [← hv]; rfl
  obtain ⟨c1, c2⟩ := u_xcl_lb (L := L) (lw := lw) (v := v) t 1 h hd (by omega)
  rw [show ((1 : Nat) : Int) - 1 = 0 from rfl, ← a0] at c1 c2
  have ecl : u_xcl L lw none s (h :: t) = u_lb L lw v t.length 1 := c1
  have efa : u_fa L none s (h :: t) = some (q_ac L v ((v.length : Int) - 2)) := by
    refine (show u_fa L none s (h :: t) = _ from c2).trans ?_
    refine congrArg some (congrArg (q_ac L v) ?_)
    rw [hlen]; omega
  have ela : u_la L lw v = (u_lb L lw v t.length 1 && r_may lw (q_ac L v ((v.length : Int) - 2)) (q_ac L v ((v.length : Int) - 1)) && r_may lw (q_ac L v ((v.length : Int) - 1)) (q_ac L v 0)) := by
    unfold u_la
    rw [hlen, u_lb, u_lb_snoc, show ((0 : Nat) : Int) - 1 = -1 from rfl, am, Bool.and_comm, show ((0 : Nat) : Int) = 0 from rfl, show (((0 + 1 + t.length : Nat) : Int)) - 1 = (v.length : Int) - 2 by rw [hlen]; omega, show (((0 + 1 + t.length : Nat) : Int)) = (v.length : Int) - 1 by rw [hlen]; omega, Nat.zero_add, hlen]
  rw [ecl, efa, ela]
  show (_ ∧ u_hm L lw one v (q_ac L v ((v.length : Int) - 2)) = true) ↔ _
  unfold u_hm
  rw [g0, g1, ah, a0]
  cases u_lb L lw v t.length 1 <;> cases r_may lw (q_ac L v ((v.length : Int) - 2)) (q_ac L v ((v.length : Int) - 1)) <;> cases r_may lw (q_ac L v ((v.length : Int) - 1)) (q_ac L v 0) <;> cases one <;> simp
/-- least hole of a picture -/
def u_s0 (P : List (Nat × Nat)) : Nat := n_low (q_bits (u_fp P))
/-- a round of all holes of a picture, its pairs its first, third .. spans -/
def u_rp (P : List (Nat × Nat)) (v : List Nat) : Prop := v.length = 2 * P.length ∧ v.Nodup ∧ (∀ x ∈ v, x ∈ u_fp P) ∧ v.getD 0 0 = u_s0 P ∧ u_tq P v
theorem u_s0_ok (hb : ∀ h ∈ u_fp P, h < 12) (hP : P ≠ []) : u_s0 P ∈ u_fp P ∧ ∀ h ∈ u_fp P, u_s0 P ≤ h := by
  have hS : q_bits (u_fp P) < 4096 := by
    refine Nat.lt_pow_two_of_testBit (n := 12) _ (fun i hi => ?_)
    rw [q_bits_bit]
    exact decide_eq_false (fun q => by have := hb i q; omega)
  obtain ⟨p, hp⟩ := List.exists_mem_of_ne_nil P hP
  have hp1 : p.1 ∈ u_fp P := u_fp_mem.mpr ⟨p, hp, Or.inl rfl⟩
  have h0 : q_bits (u_fp P) ≠ 0 := fun q => by
    have := q_bits_bit (u_fp P) p.1
    rw [q, Nat.zero_testBit] at this
    have := of_decide_eq_false this.symm
    exact this hp1
  have lo := w_low hS (by omega)
  refine ⟨?_, fun h hh => ?_⟩
  · have := lo.2.2.1
    rw [q_bits_bit] at this
    exact of_decide_eq_true this
  · by_cases c : u_s0 P ≤ h
    · exact c
    · have := lo.2.2.2 h (hb h hh) (by unfold u_s0 at c; omega)
      rw [q_bits_bit] at this
      exact absurd hh (of_decide_eq_false this)
end Around
