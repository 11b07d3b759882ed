/-! ===== alike: who is in both lists ===== -/
def u_rd (L lw : Nat) (v : List Nat) : Prop := v.length = L + L ∧ v.Nodup ∧ (∀ x ∈ v, x < L + L) ∧ v.getD 0 0 = 0 ∧ v.getD 1 0 < u_wl v ∧ u_la L lw v = true
theorem n_low_wh : ∀ L, L < 7 → 1 ≤ L → n_low (c_wh L L 0) = 0 := by decide
section Lists
variable {L lw n : Nat} {one : Bool} {v w : List Nat}
theorem u_go_all : ∀ (k : Nat) (w : List Nat) (rest : Nat) (a : Option Bool), n_pop rest = k → rest < 4096 → (v ∈ u_go L lw [] one k w rest a true ↔ ∃ t, v = w ++ t ∧ t.length = k ∧ t.Nodup ∧ (∀ x ∈ t, rest.testBit x = true) ∧ u_xcl L lw a (u_wl w) t = true ∧ u_ho L lw one v (u_fa L a (u_wl w) t))
  | 0, w, rest, a, hp, hr => by
    rw [u_go_0]
    constructor
    · rintro ⟨rfl, h⟩
      exact ⟨[], (List.append_nil _).symm, rfl, List.nodup_nil, fun x hx => (by cases hx), rfl, h⟩
    · rintro ⟨t, h1, h2, -, -, -, h7⟩
      have : t = [] := List.length_eq_zero_iff.mp h2
      subst this
      rw [List.append_nil] at h1
      subst h1
      exact ⟨rfl, h7⟩
  | k + 1, w, rest, a, hp, hr => by
    rw [u_go_mem]
    have ih := fun h (hb : rest.testBit h = true) => u_go_all k (w ++ [h]) (w_rm rest h) (some (r_x L (u_wl w) h)) (by have := n_pop_rm hr hb; omega) (Nat.lt_of_le_of_lt (w_rm_le _ _) hr)
    constructor
    · rintro ⟨h, h1, -, h3, h4⟩
      have e : (decide (([] : List (Nat × Nat)).length = 0) || u_pr [] (u_wl w) h) = true := rfl
      rw [e] at h4
      obtain ⟨t, t1, t2, t3, t4, t5, t6⟩ := (ih h h1.2).mp h4
      rw [u_wl_add] at t5 t6
      refine ⟨h :: t, by rw [t1]; simp, by simp [t2], List.nodup_cons.mpr ⟨fun q => ?_, t3⟩, fun x hx => ?_, ?_, t6⟩
      · have := t4 h q
        rw [w_rm_bit] at this
        simp at this
      · rcases List.mem_cons.mp hx with q | q
        · rw [q]; exact h1.2
        · have := t4 x q
          rw [w_rm_bit, Bool.and_eq_true] at this
          exact this.1
      · show (u_ma lw a (r_x L (u_wl w) h) && u_xcl L lw (some (r_x L (u_wl w) h)) h t) = true
        rw [h3, t5]; rfl
    · rintro ⟨t, t1, t2, t3, t4, t5, t6⟩
      obtain ⟨h, t', rfl⟩ : ∃ h t', t = h :: t' := by
        cases t with
        | nil => cases t2
        | cons h t => exact ⟨h, t, rfl⟩
      have c5 : (u_ma lw a (r_x L (u_wl w) h) && u_xcl L lw (some (r_x L (u_wl w) h)) h t') = true := t5
      rw [Bool.and_eq_true] at c5
      obtain ⟨n1, n2⟩ := List.nodup_cons.mp t3
      have hh := t4 h List.mem_cons_self
      have h12 : h < 12 := by
        by_cases q : h < 12
        · exact q
        · rw [Nat.testBit_lt_two_pow (Nat.lt_of_lt_of_le hr (Nat.pow_le_pow_right (n := 2) (by decide) (show 12 ≤ h by omega)))] at hh
          cases hh
      refine ⟨h, ⟨h12, hh⟩, Or.inl rfl, c5.1, ?_⟩
      show v ∈ u_go L lw [] one k (w ++ [h]) (w_rm rest h) (some (r_x L (u_wl w) h)) true
      refine (ih h hh).mpr ⟨t', by rw [t1]; simp, by simpa using t2, n2, fun x hx => ?_, by rw [u_wl_add]; exact c5.2, by rw [u_wl_add]; exact t6⟩
      rw [w_rm_bit, t4 x (List.mem_cons_of_mem _ hx), Bool.true_and]
      exact decide_eq_true (fun q => n1 (q ▸ hx))
theorem u_gal_mem (h2 : 2 ≤ L) (h4 : L ≤ 4) : v ∈ u_gal L lw ↔ u_rd L lw v := by
  have hS : c_wh L L 0 < 4096 := c_wh_lt (by omega) (by omega)
  have hpop := n_pop_wh L (by omega)
  have hlow := n_low_wh L (by omega) (by omega)
  have hbit : ∀ j, (c_wh L L 0).testBit j = true ↔ j < L + L := fun j => by
    rw [c_wh_bit, Nat.zero_testBit, Bool.not_false, Bool.and_true, decide_eq_true_iff]
  unfold u_gal
  rw [hlow]
  generalize c_wh L L 0 = S at *
  have hpr := n_pop_rm hS ((hbit 0).mpr (by omega))
  rw [u_go_all (L + L - 1) [0] (w_rm S 0) none (by omega) (Nat.lt_of_le_of_lt (w_rm_le _ _) hS)]
  have rb : ∀ x, (w_rm S 0).testBit x = true ↔ (x < L + L ∧ x ≠ 0) := fun x => by
    rw [w_rm_bit, Bool.and_eq_true, hbit, decide_eq_true_iff]
  constructor
  · rintro ⟨t, t1, t2, t3, t4, t5, t6⟩
    obtain ⟨h, t', rfl⟩ : ∃ h t', t = h :: t' := by
      cases t with
      | nil => rw [List.length_nil] at t2; omega
      | cons h t => exact ⟨h, t, rfl⟩
    have e : v = 0 :: h :: t' := t1
    subst e
    have la := (u_law (L := L) (lw := lw) (one := true) (s := 0) (h := h) (t := t')).mp ⟨t5, t6⟩
    refine ⟨by rw [List.length_cons, t2]; omega, List.nodup_cons.mpr ⟨fun q => ((rb 0).mp (t4 0 q)).2 rfl, t3⟩, fun x hx => ?_, rfl, la.2 rfl, la.1⟩
    rcases List.mem_cons.mp hx with q | q
    · rw [q]; omega
    · exact ((rb x).mp (t4 x q)).1
  · rintro ⟨v1, v2, v3, v4, v5, v6⟩
    obtain ⟨s, h, t, rfl⟩ := u_cons2 (v := v) (by omega)
    have es : s = 0 := v4
    subst es
    obtain ⟨n1, n2⟩ := List.nodup_cons.mp v2
    have la := (u_law (L := L) (lw := lw) (one := true) (s := 0) (h := h) (t := t)).mpr ⟨v6, fun _ => v5⟩
    refine ⟨h :: t, rfl, by rw [List.length_cons] at v1; omega, n2, fun x hx => (rb x).mpr ⟨v3 x (List.mem_cons_of_mem _ hx), fun q => n1 (q ▸ hx)⟩, la.1, la.2⟩
theorem u_gal_nodup : (u_gal L lw).Nodup := u_go_nodup
theorem u_pl_mem : ∀ (k used : Nat) (w : List Nat), v ∈ u_pl n k used w ↔ ∃ t, v = w ++ t ∧ t.length = k ∧ t.Nodup ∧ ∀ x ∈ t, 1 ≤ x ∧ x < n ∧ used.testBit x = false
  | 0, used, w => by
    rw [u_pl, List.mem_singleton]
    constructor
    · intro h
      exact ⟨[], by rw [h, List.append_nil], rfl, List.nodup_nil, fun x hx => (by cases hx)⟩
    · rintro ⟨t, t1, t2, -⟩
      rw [t1, List.length_eq_zero_iff.mp t2, List.append_nil]
  | k + 1, used, w => by
    rw [u_pl, List.mem_flatMap]
    constructor
    · rintro ⟨h, hh, hv⟩
      rw [List.mem_range'_1] at hh
      by_cases cb : used.testBit h = true
      · rw [if_pos cb] at hv; cases hv
      · rw [if_neg cb] at hv
        obtain ⟨t, t1, t2, t3, t4⟩ := (u_pl_mem k (used ||| 2 ^ h) (w ++ [h])).mp hv
        have no : ∀ x ∈ t, used.testBit x = false ∧ h ≠ x := fun x hx => by
          have := (t4 x hx).2.2
          rw [u_or_bit, Bool.or_eq_false_iff] at this
          exact ⟨this.1, of_decide_eq_false this.2⟩
        refine ⟨h :: t, by rw [t1]; simp, by simp [t2], List.nodup_cons.mpr ⟨fun q => (no h q).2 rfl, t3⟩, fun x hx => ?_⟩
        rcases List.mem_cons.mp hx with q | q
        · rw [q]; exact ⟨hh.1, by omega, Bool.eq_false_iff.mpr cb⟩
        · exact ⟨(t4 x q).1, (t4 x q).2.1, (no x q).1⟩
    · rintro ⟨t, t1, t2, t3, t4⟩
      obtain ⟨h, t', rfl⟩ : ∃ h t', t = h :: t' := by
        cases t with
        | nil => cases t2
        | cons h t => exact ⟨h, t, rfl⟩
      obtain ⟨n1, n2⟩ := List.nodup_cons.mp t3
      obtain ⟨g1, g2, g3⟩ := t4 h List.mem_cons_self
      refine ⟨h, by rw [List.mem_range'_1]; omega, ?_⟩
      rw [if_neg (by rw [g3]; decide)]
      refine (u_pl_mem k (used ||| 2 ^ h) (w ++ [h])).mpr ⟨t', by rw [t1]; simp, by simpa using t2, n2, fun x hx => ?_⟩
      obtain ⟨k1, k2, k3⟩ := t4 x (List.mem_cons_of_mem _ hx)
      refine ⟨k1, k2, ?_⟩
      rw [u_or_bit, k3, Bool.false_or]
      exact decide_eq_false (fun q => n1 (q ▸ hx))
theorem u_pl_at {k used : Nat} {w : List Nat} {x : Nat} (h : v ∈ u_pl n k used (w ++ [x])) : v.getD w.length 0 = x := by
  obtain ⟨t, t1, -⟩ := (u_pl_mem k used (w ++ [x])).mp h
  rw [t1, List.append_assoc, List.getD_eq_getElem?_getD, List.getElem?_append_right (Nat.le_refl _), Nat.sub_self]; rfl
theorem u_pl_nodup : ∀ (k used : Nat) (w : List Nat), (u_pl n k used w).Nodup
  | 0, _, w => List.nodup_cons.mpr ⟨fun q => (by cases q), List.nodup_nil⟩
  | k + 1, used, w => by
    rw [u_pl]
    refine List.pairwise_flatMap.mpr ⟨fun i hi => ?_, ?_⟩
    · split
      · exact List.Pairwise.nil
      · exact u_pl_nodup k _ _
    · refine List.Pairwise.imp_of_mem (R := fun a b => a < b) ?_ (List.pairwise_lt_range')
      intro i j hi hj hij a ha b hb q
      have at_ : ∀ i, ∀ a ∈ (if used.testBit i = true then [] else u_pl n k (used ||| 2 ^ i) (w ++ [i])), a.getD w.length 0 = i := fun i a ha => by
        by_cases cb : used.testBit i = true
        · rw [if_pos cb] at ha; cases ha
        · rw [if_neg cb] at ha
          exact u_pl_at ha
      have e1 := at_ i a ha
      have e2 := at_ j b hb
      rw [← q] at e2
      omega
theorem u_wl_ne (hn : v.Nodup) (h3 : 3 ≤ v.length) : v.getD 1 0 ≠ u_wl v := by
  unfold u_wl
  rw [List.getD_eq_getElem?_getD, List.getD_eq_getElem?_getD, List.getElem?_eq_getElem (show 1 < v.length by omega), List.getElem?_eq_getElem (show v.length - 1 < v.length by omega)]
  exact List.pairwise_iff_getElem.mp hn 1 (v.length - 1) (by omega) (by omega) (by omega)
/-- none of its images is ahead of it -/
def u_cq (L : Nat) (v : List Nat) : Prop := u_ci L v true false ≤ 0 ∧ u_ci L v false true ≤ 0 ∧ u_ci L v true true ≤ 0
theorem u_acl_mem (h2 : 2 ≤ L) : v ∈ (u_pl (L + L) (L + L - 1) 1 [0]).filter (u_lf L lw) ↔ (u_rd L lw v ∧ u_cq L v) := by
  rw [List.mem_filter, u_pl_mem]
  unfold u_lf u_cq
  simp only [Bool.and_eq_true, decide_eq_true_iff]
  constructor
  · rintro ⟨⟨t, t1, t2, t3, t4⟩, ⟨⟨⟨c1, c2⟩, c3⟩, c4⟩, c5⟩
    have e : v = 0 :: t := t1
    have hlen : v.length = L + L := by rw [e, List.length_cons, t2]; omega
    have nd : v.Nodup := by rw [e]; exact List.nodup_cons.mpr ⟨fun q => by have := (t4 0 q).1; omega, t3⟩
    refine ⟨⟨hlen, nd, fun x hx => ?_, by rw [e]; rfl, Nat.lt_of_le_of_ne c1 (u_wl_ne nd (by omega)), c2⟩, c3, c4, c5⟩
    rw [e] at hx
    rcases List.mem_cons.mp hx with q | q
    · rw [q]; omega
    · exact (t4 x q).2.1
  · rintro ⟨⟨v1, v2, v3, v4, v5, v6⟩, c3, c4, c5⟩
    refine ⟨?_, ⟨⟨⟨Nat.le_of_lt v5, v6⟩, c3⟩, c4⟩, c5⟩
    obtain ⟨s, h, t, rfl⟩ := u_cons2 (v := v) (by omega)
    have es : s = 0 := v4
    subst es
    obtain ⟨n1, n2⟩ := List.nodup_cons.mp v2
    refine ⟨h :: t, rfl, by rw [List.length_cons] at v1; omega, n2, fun x hx => ?_⟩
    have x0 : x ≠ 0 := fun q => n1 (q ▸ hx)
    refine ⟨by omega, v3 x (List.mem_cons_of_mem _ hx), ?_⟩
    show (2 ^ 0).testBit x = false
    rw [Nat.testBit_two_pow]
    exact decide_eq_false (fun q => x0 q.symm)
end Lists
