/-! ===== within, guess: the same answers ===== -/
section Same
variable {P : List (Nat × Nat)} {L lw : Nat} {one : Bool} {v : List Nat}
theorem u_lb_iff {v : List Nat} : ∀ (k i : Nat), u_lb L lw v k i = true ↔ ∀ j : Nat, i ≤ j → j < i + k → r_may lw (q_ac L v ((j : Int) - 1)) (q_ac L v (j : Int)) = true
  | 0, i => ⟨fun _ j h1 h2 => absurd h2 (by omega), fun _ => rfl⟩
  | k + 1, i => by
    rw [u_lb, Bool.and_eq_true, u_lb_iff k (i + 1)]
    constructor
    · rintro ⟨h1, h2⟩ j h3 h4
      by_cases q : j = i
      · rw [q]; exact h1
      · exact h2 j (by omega) (by omega)
    · intro h
      exact ⟨h i (Nat.le_refl _) (by omega), fun j h1 h2 => h j (by omega) (by omega)⟩
theorem q_ac_mod {i : Int} : q_ac L v (i % (v.length : Int)) = q_ac L v i := by
  unfold q_ac q_at
  rw [Int.emod_emod, Int.emod_add_emod]
theorem q_ac_mod1 {i : Int} : q_ac L v (i % (v.length : Int) - 1) = q_ac L v (i - 1) := by
  unfold q_ac q_at
  rw [show i % (v.length : Int) - 1 = i % (v.length : Int) + (-1) by omega, Int.emod_add_emod, show i % (v.length : Int) + (-1) + 1 = i % (v.length : Int) + 0 by omega, Int.emod_add_emod, show i + 0 = i - 1 + 1 by omega, show i + -1 = i - 1 by omega]
theorem u_la_iff (hn : v ≠ []) : u_la L lw v = true ↔ ∀ i : Int, r_may lw (q_ac L v (i - 1)) (q_ac L v i) = true := by
  have hl : 0 < v.length := List.length_pos_iff.mpr hn
  unfold u_la
  rw [u_lb_iff]
  constructor
  · intro h i
    have m1 := Int.emod_nonneg i (show (v.length : Int) ≠ 0 by omega)
    have m2 := Int.emod_lt_of_pos i (show (0 : Int) < (v.length : Int) by omega)
    have := h (i % (v.length : Int)).toNat (Nat.zero_le _) (by omega)
    rw [Int.toNat_of_nonneg m1, q_ac_mod, q_ac_mod1] at this
    exact this
  · intro h j _ _
    exact h (j : Int)
/-- turned round -/
def u_rv (v : List Nat) : List Nat := (List.range v.length).map (fun j : Nat => q_at v (-(j : Int)))
theorem u_rv_len : (u_rv v).length = v.length := by unfold u_rv; rw [List.length_map, List.length_range]
theorem u_rv_at (hn : v ≠ []) (i : Int) : q_at (u_rv v) i = q_at v (-i) := by
  have hl : 0 < v.length := List.length_pos_iff.mpr hn
  have m1 := Int.emod_nonneg i (show (v.length : Int) ≠ 0 by omega)
  have m2 := Int.emod_lt_of_pos i (show (0 : Int) < (v.length : Int) by omega)
  have e : q_at (u_rv v) i = q_at v (-(((i % (v.length : Int)).toNat : Nat) : Int)) := by
    show (u_rv v).getD (i % ((u_rv v).length : Int)).toNat 0 = _
    rw [u_rv_len, List.getD_eq_getElem?_getD, List.getElem?_eq_getElem (by rw [u_rv_len]; omega)]
    unfold u_rv
    rw [List.getElem_map, List.getElem_range]; rfl
  rw [e, Int.toNat_of_nonneg m1]
  unfold q_at
  refine congrArg (fun z : Int => v.getD z.toNat 0) ?_
  have e2 : i = i / (v.length : Int) * (v.length : Int) + i % (v.length : Int) := by have := Int.mul_ediv_add_emod i (v.length : Int); rw [Int.mul_comm] at this; omega
  have e3 : -i = -(i % (v.length : Int)) + (-(i / (v.length : Int))) * (v.length : Int) := by rw [Int.neg_mul]; omega
  rw [e3, Int.add_mul_emod_self_right]
theorem u_rv_la (hn : v ≠ []) : u_la L lw (u_rv v) = u_la L lw v := by
  have hr : u_rv v ≠ [] := fun q => by
    have := u_rv_len (v := v)
    rw [q] at this
    exact hn (List.length_eq_zero_iff.mp this.symm)
  have ea : ∀ i : Int, q_ac L (u_rv v) i = q_ac L v (-i - 1) := fun i => by
    unfold q_ac
    rw [u_rv_at hn, u_rv_at hn, r_x_comm, show -(i + 1) = -i - 1 by omega, show -i - 1 + 1 = -i by omega]
  have e : (u_la L lw (u_rv v) = true) = (u_la L lw v = true) := propext (by
    rw [u_la_iff hr, u_la_iff hn]
    constructor
    · intro h i
      have := h (-i)
      rw [ea, ea, r_may_comm, show -(-i) - 1 = i - 1 by omega, show -(-i - 1) - 1 = i by omega] at this
      exact this
    · intro h i
      have := h (-i)
      rw [ea, ea, r_may_comm, show -(i - 1) - 1 = -i by omega]
      exact this)
  cases h : u_la L lw v
  · rw [h] at e
    exact Bool.eq_false_iff.mpr (fun q => by rw [e] at q; cases q)
  · rw [h] at e
    rw [e]
theorem u_rv_cons {s : Nat} {t : List Nat} : u_rv (s :: t) = s :: t.reverse := by
  refine List.ext_getElem (by rw [u_rv_len]; simp) (fun j h1 h2 => ?_)
  have e0 : (u_rv (s :: t))[j]'h1 = q_at (s :: t) (-(j : Int)) := by simp only [u_rv, List.getElem_map, List.getElem_range]
  rw [e0]
  rw [u_rv_len] at h1
  cases j with
  | zero =>
    have := q_at_nat (w := s :: t) (i := 0) (by simp)
    rw [show -(((0 : Nat) : Int)) = ((0 : Nat) : Int) from rfl, this]; rfl
  | succ j =>
    rw [List.getElem_cons_succ, List.getElem_reverse]
    have e := q_at_len (v := s :: t) (i := -((j + 1 : Nat) : Int))
    rw [← e]
    simp only [List.length_cons] at h1 ⊢
    rw [show -((j + 1 : Nat) : Int) + ((t.length + 1 : Nat) : Int) = ((t.length - 1 - j + 1 : Nat) : Int) by omega, q_at_nat (by simp; omega), List.getD_cons_succ, List.getD_eq_getElem?_getD, List.getElem?_eq_getElem (by omega)]; rfl
theorem u_tq_snoc2 : ∀ {a : List Nat} {x y : Nat}, a.length % 2 = 0 → (u_tq P (a ++ [x, y]) ↔ u_tq P a ∧ u_pr P x y = true)
  | [], x, y, _ => ⟨fun h => ⟨trivial, h.1⟩, fun h => ⟨h.2, trivial⟩⟩
  | [z], _, _, h => by simp at h
  | p :: q :: a, x, y, h => by
    have ih := u_tq_snoc2 (a := a) (x := x) (y := y) (by simp at h; omega)
    show (u_pr P p q = true ∧ u_tq P (a ++ [x, y])) ↔ (u_pr P p q = true ∧ u_tq P a) ∧ u_pr P x y = true
    rw [ih, and_assoc]
theorem u_tq_snoc1 : ∀ {a : List Nat} {x : Nat}, a.length % 2 = 0 → (u_tq P (a ++ [x]) ↔ u_tq P a)
  | [], x, _ => ⟨fun _ => trivial, fun _ => trivial⟩
  | [z], _, h => by simp at h
  | p :: q :: a, x, h => by
    have ih := u_tq_snoc1 (a := a) (x := x) (by simp at h; omega)
    show (u_pr P p q = true ∧ u_tq P (a ++ [x])) ↔ (u_pr P p q = true ∧ u_tq P a)
    rw [ih]
theorem u_tq_rev : ∀ {a : List Nat}, a.length % 2 = 0 → u_tq P a → u_tq P a.reverse
  | [], _, _ => trivial
  | [z], h, _ => by simp at h
  | p :: q :: a, h, g => by
    have hl : a.length % 2 = 0 := by simp at h; omega
    have g' : u_pr P p q = true ∧ u_tq P a := g
    rw [List.reverse_cons, List.reverse_cons, List.append_assoc]
    exact (u_tq_snoc2 (by rw [List.length_reverse]; exact hl)).mpr ⟨u_tq_rev hl g'.2, by rw [u_pr_comm]; exact g'.1⟩
theorem u_tq_mem (hn : (u_fp P).Nodup) : ∀ {a : List Nat} {x y : Nat}, a.length % 2 = 0 → u_tq P a → x ∈ a → u_pr P x y = true → y ∈ a
  | [], x, y, _, _, h, _ => by cases h
  | [z], _, _, h, _, _, _ => by simp at h
  | p :: q :: a, x, y, h, g, hx, hp => by
    have g' : u_pr P p q = true ∧ u_tq P a := g
    rcases List.mem_cons.mp hx with e | e
    · rw [e] at hp
      rw [u_pr_uniq hn hp g'.1]
      exact List.mem_cons_of_mem _ List.mem_cons_self
    · rcases List.mem_cons.mp e with e | e
      · rw [e] at hp
        have gc : u_pr P q p = true := by rw [u_pr_comm]; exact g'.1
        rw [u_pr_uniq hn hp gc]
        exact List.mem_cons_self
      · exact List.mem_cons_of_mem _ (List.mem_cons_of_mem _ (u_tq_mem hn (by simp at h; omega) g'.2 e hp))
/-- the own form of a round that begins at its least hole -/
theorem q_mi_0 {w : List Nat} (h : ∀ i : Int, q_at w 0 ≤ q_at w i) : ∀ n i, q_mi w n i 0 = 0
  | 0, _ => rfl
  | n + 1, i => by rw [q_mi, if_pos (show q_at w ((0 : Nat) : Int) ≤ q_at w (i : Int) from h _)]; exact q_mi_0 h n (i + 1)
theorem u_own (hn : v ≠ []) (h : ∀ x ∈ v, v.getD 0 0 ≤ x) : q_own v = if v.getD 1 0 < u_wl v ∧ 2 ≤ v.length then v else u_rv v := by
  have hl : 0 < v.length := List.length_pos_iff.mpr hn
  have e0 : q_at v 0 = v.getD 0 0 := q_at_nat (w := v) (i := 0) hl
  have sx : q_sx v = 0 := q_mi_0 (fun i => by rw [e0]; exact h _ (q_at_mem hn)) _ _
  have lst : u_wl v = q_at v (-1) := by
    unfold u_wl
    have := q_at_len (v := v) (i := -1)
    rw [← q_at_nat (by omega), show ((v.length - 1 : Nat) : Int) = -1 + (v.length : Int) by omega, this]
  by_cases c2 : 2 ≤ v.length
  · have e1 : q_at v 1 = v.getD 1 0 := q_at_nat (w := v) (i := 1) (by omega)
    have sd : q_sd v = if u_wl v ≤ v.getD 1 0 then -1 else 1 := by
      unfold q_sd
      rw [sx, show (((0 : Nat) : Int)) - 1 = -1 from rfl, show (((0 : Nat) : Int)) + 1 = 1 from rfl, e1, lst]
    unfold q_own
    by_cases c : v.getD 1 0 < u_wl v
    · rw [if_neg (by omega)] at sd
      rw [if_pos ⟨c, c2⟩]
      refine List.ext_getElem (by simp) (fun j h1 h2 => ?_)
      rw [List.getElem_map, List.getElem_range]
      unfold q_oj
      rw [sx, sd, show (((0 : Nat) : Int)) + 1 * (j : Int) = (j : Int) by omega, q_at_nat h2, List.getD_eq_getElem?_getD, List.getElem?_eq_getElem h2]; rfl
    · rw [if_pos (by omega)] at sd
      rw [if_neg (fun r => c r.1)]
      unfold u_rv
      refine List.map_congr_left (fun j _ => ?_)
      unfold q_oj
      rw [sx, sd, show (((0 : Nat) : Int)) + -1 * (j : Int) = -(j : Int) by omega]
  · rw [if_neg (fun r => c2 r.2)]
    have l1 : v.length = 1 := by omega
    obtain ⟨x, rfl⟩ := List.length_eq_one_iff.mp l1
    have one : ∀ i : Int, q_at [x] i = x := fun i => by
      unfold q_at
      rw [List.length_singleton, show ((1 : Nat) : Int) = 1 from rfl, Int.emod_one]; rfl
    unfold q_own u_rv
    refine List.map_congr_left (fun j _ => ?_)
    unfold q_oj
    rw [one, one]
end Same
