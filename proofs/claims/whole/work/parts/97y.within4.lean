/-! ===== within, guess: the reference's list; turned round ===== -/
section Ref
variable {P : List (Nat × Nat)} {L lw : Nat} {one : Bool} {v : List Nat}
theorem u_fp_ix : ∀ {P : List (Nat × Nat)}, (u_fp P).Nodup → ∀ i j, i < P.length → j < P.length → ∀ h, (h = (P.getD i (0, 0)).1 ∨ h = (P.getD i (0, 0)).2) → (h = (P.getD j (0, 0)).1 ∨ h = (P.getD j (0, 0)).2) → i = j
  | [], _, i, _, hi, _, _, _, _ => absurd hi (Nat.not_lt_zero i)
  | pr :: P, hn, i, j, hi, hj, h, h1, h2 => by
    rw [u_fp_cons] at hn
    obtain ⟨n1, n2⟩ := List.nodup_cons.mp hn
    obtain ⟨n3, n4⟩ := List.nodup_cons.mp n2
    have no : ∀ k, k < P.length → (h = (P.getD k (0, 0)).1 ∨ h = (P.getD k (0, 0)).2) → (h = pr.1 ∨ h = pr.2) → False := fun k hk g1 g2 => by
      have mm := u_getD_fp (P := P) hk
      have hm : h ∈ u_fp P := by
        rcases g1 with g | g
        · rw [g]; exact mm.1
        · rw [g]; exact mm.2
      rcases g2 with g | g
      · exact n1 (List.mem_cons_of_mem _ (g ▸ hm))
      · exact n3 (g ▸ hm)
    cases i with
    | zero => cases j with
      | zero => rfl
      | succ j => exact (no j (by simpa using hj) h2 h1).elim
    | succ i => cases j with
      | zero => exact (no i (by simpa using hi) h1 h2).elim
      | succ j => rw [u_fp_ix n4 i j (by simpa using hi) (by simpa using hj) h h1 h2]
def u_uh (P : List (Nat × Nat)) (used x : Nat) : Prop := ∃ j, j < P.length ∧ used.testBit j = false ∧ (x = (P.getD j (0, 0)).1 ∨ x = (P.getD j (0, 0)).2)
theorem u_getD_in {i : Nat} (hi : i < P.length) : P.getD i (0, 0) ∈ P := by
  rw [List.getD_eq_getElem?_getD, List.getElem?_eq_getElem hi]; exact List.getElem_mem _
theorem u_or_bit {used i j : Nat} : (used ||| 2 ^ i).testBit j = (used.testBit j || decide (i = j)) := by
  rw [Nat.testBit_or, Nat.testBit_two_pow]
theorem u_rl_mem (hn : (u_fp P).Nodup) : ∀ (k used : Nat) (w : List Nat), v ∈ u_rl P k used w ↔ ∃ t, v = w ++ t ∧ t.length = 2 * k ∧ t.Nodup ∧ (∀ x ∈ t, u_uh P used x) ∧ u_tq P t
  | 0, used, w => by
    rw [u_rl, List.mem_singleton]
    constructor
    · intro h
      exact ⟨[], by rw [h, List.append_nil], rfl, List.nodup_nil, fun x hx => (by cases hx), trivial⟩
    · rintro ⟨t, t1, t2, -⟩
      rw [t1, List.length_eq_zero_iff.mp t2, List.append_nil]
  | k + 1, used, w => by
    rw [u_rl, List.mem_flatMap]
    have fw : ∀ (i x y : Nat), i < P.length → used.testBit i = false → ((x = (P.getD i (0, 0)).1 ∧ y = (P.getD i (0, 0)).2) ∨ (x = (P.getD i (0, 0)).2 ∧ y = (P.getD i (0, 0)).1)) → v ∈ u_rl P k (used ||| 2 ^ i) (w ++ [x, y]) → ∃ t, v = w ++ t ∧ t.length = 2 * (k + 1) ∧ t.Nodup ∧ (∀ x ∈ t, u_uh P used x) ∧ u_tq P t := fun i x y hi hb hxy hv => by
      obtain ⟨t, t1, t2, t3, t4, t5⟩ := (u_rl_mem hn k (used ||| 2 ^ i) (w ++ [x, y])).mp hv
      have ne := u_fp_ne hn _ (u_getD_in hi)
      have hne : x ≠ y := by
        rcases hxy with ⟨q, r⟩ | ⟨q, r⟩
        · rw [q, r]; exact ne
        · rw [q, r]; exact fun z => ne z.symm
      have xi : x = (P.getD i (0, 0)).1 ∨ x = (P.getD i (0, 0)).2 := hxy.elim (fun q => Or.inl q.1) (fun q => Or.inr q.1)
      have yi : y = (P.getD i (0, 0)).1 ∨ y = (P.getD i (0, 0)).2 := hxy.elim (fun q => Or.inr q.2) (fun q => Or.inl q.2)
      have no : ∀ z ∈ t, (z = (P.getD i (0, 0)).1 ∨ z = (P.getD i (0, 0)).2) → False := fun z hz q => by
        obtain ⟨j, j1, j2, j3⟩ := t4 z hz
        rw [u_or_bit, Bool.or_eq_false_iff] at j2
        have := u_fp_ix hn i j hi j1 z q j3
        exact of_decide_eq_false j2.2 this
      refine ⟨x :: y :: t, by rw [t1]; simp, by simp [t2]; omega, ?_, ?_, ?_, t5⟩
      · refine List.nodup_cons.mpr ⟨fun q => ?_, List.nodup_cons.mpr ⟨fun q => no y q yi, t3⟩⟩
        rcases List.mem_cons.mp q with q | q
        · exact hne q
        · exact no x q xi
      · intro z hz
        rcases List.mem_cons.mp hz with q | q
        · exact ⟨i, hi, hb, q ▸ xi⟩
        · rcases List.mem_cons.mp q with q | q
          · exact ⟨i, hi, hb, q ▸ yi⟩
          · obtain ⟨j, j1, j2, j3⟩ := t4 z q
            rw [u_or_bit, Bool.or_eq_false_iff] at j2
            exact ⟨j, j1, j2.1, j3⟩
      · rw [u_pr_iff]
        have hp := u_getD_in hi
        rcases hxy with ⟨q, r⟩ | ⟨q, r⟩
        · exact Or.inl (by rw [q, r]; exact hp)
        · exact Or.inr (by rw [q, r]; exact hp)
    constructor
    · rintro ⟨i, hi, hv⟩
      rw [List.mem_range'_1] at hi
      by_cases cb : used.testBit i = true
      · rw [if_pos cb] at hv; cases hv
      · rw [if_neg cb] at hv
        have cf : used.testBit i = false := Bool.eq_false_iff.mpr cb
        rcases List.mem_append.mp hv with q | q
        · exact fw i _ _ (by omega) cf (Or.inl ⟨rfl, rfl⟩) q
        · exact fw i _ _ (by omega) cf (Or.inr ⟨rfl, rfl⟩) q
    · rintro ⟨t, t1, t2, t3, t4, t5⟩
      obtain ⟨x, y, t', rfl⟩ := u_cons2 (v := t) (by omega)
      obtain ⟨n1, n2⟩ := List.nodup_cons.mp t3
      obtain ⟨n3, n4⟩ := List.nodup_cons.mp n2
      obtain ⟨i, i1, i2, i3⟩ := t4 x List.mem_cons_self
      have hp := u_getD_in i1
      have hxy : (x = (P.getD i (0, 0)).1 ∧ y = (P.getD i (0, 0)).2) ∨ (x = (P.getD i (0, 0)).2 ∧ y = (P.getD i (0, 0)).1) := by
        rcases i3 with q | q
        · exact Or.inl ⟨q, u_pr_uniq hn t5.1 (u_pr_iff.mpr (Or.inl (by rw [q]; exact hp)))⟩
        · exact Or.inr ⟨q, u_pr_uniq hn t5.1 (u_pr_iff.mpr (Or.inr (by rw [q]; exact hp)))⟩
      have bk : v ∈ u_rl P k (used ||| 2 ^ i) (w ++ [x, y]) := by
        refine (u_rl_mem hn k (used ||| 2 ^ i) (w ++ [x, y])).mpr ⟨t', by rw [t1]; simp, by simp at t2; omega, n4, fun z hz => ?_, t5.2⟩
        obtain ⟨j, j1, j2, j3⟩ := t4 z (List.mem_cons_of_mem _ (List.mem_cons_of_mem _ hz))
        refine ⟨j, j1, ?_, j3⟩
        rw [u_or_bit, j2, Bool.false_or]
        refine decide_eq_false (fun q => ?_)
        subst q
        have zx : z = x ∨ z = y := by
          rcases hxy with ⟨q, r⟩ | ⟨q, r⟩
          · rw [q, r]; exact j3
          · rw [q, r]; exact j3.symm
        rcases zx with q | q
        · exact n1 (q ▸ List.mem_cons_of_mem _ hz)
        · exact n3 (q ▸ hz)
      refine ⟨i, by rw [List.mem_range'_1]; omega, ?_⟩
      rw [if_neg (by rw [i2]; decide)]
      rcases hxy with ⟨q, r⟩ | ⟨q, r⟩
      · rw [q, r] at bk
        exact List.mem_append.mpr (Or.inl bk)
      · rw [q, r] at bk
        exact List.mem_append.mpr (Or.inr bk)
theorem u_rl_at {k used : Nat} {w : List Nat} {x y : Nat} (hn : (u_fp P).Nodup) (h : v ∈ u_rl P k used (w ++ [x, y])) : v.getD w.length 0 = x := by
  obtain ⟨t, t1, -⟩ := (u_rl_mem hn k used (w ++ [x, y])).mp h
  rw [t1, List.append_assoc, List.getD_eq_getElem?_getD, List.getElem?_append_right (Nat.le_refl _), Nat.sub_self]; rfl
theorem u_rl_nodup (hn : (u_fp P).Nodup) : ∀ (k used : Nat) (w : List Nat), (u_rl P k used w).Nodup
  | 0, _, w => List.nodup_cons.mpr ⟨fun q => (by cases q), List.nodup_nil⟩
  | k + 1, used, w => by
    rw [u_rl]
    refine List.pairwise_flatMap.mpr ⟨fun i hi => ?_, ?_⟩
    · rw [List.mem_range'_1] at hi
      split
      · exact List.Pairwise.nil
      · refine List.pairwise_append.mpr ⟨u_rl_nodup hn k _ _, u_rl_nodup hn k _ _, fun a ha b hb => ?_⟩
        have e1 := u_rl_at hn ha
        have e2 := u_rl_at hn hb
        intro q
        rw [q, e2] at e1
        exact u_fp_ne hn _ (u_getD_in (P := P) (i := i) (by omega)) e1.symm
    · refine List.Pairwise.imp_of_mem (R := fun a b => a < b) ?_ (List.pairwise_lt_range')
      intro i j hi hj hij a ha b hb q
      rw [List.mem_range'_1] at hi hj
      have at_ : ∀ i, ∀ a ∈ (if used.testBit i = true then [] else u_rl P k (used ||| 2 ^ i) (w ++ [(P.getD i (0, 0)).1, (P.getD i (0, 0)).2]) ++ u_rl P k (used ||| 2 ^ i) (w ++ [(P.getD i (0, 0)).2, (P.getD i (0, 0)).1])), a.getD w.length 0 = (P.getD i (0, 0)).1 ∨ a.getD w.length 0 = (P.getD i (0, 0)).2 := fun i a ha => by
        by_cases cb : used.testBit i = true
        · rw [if_pos cb] at ha; cases ha
        · rw [if_neg cb] at ha
          rcases List.mem_append.mp ha with r | r
          · exact Or.inl (u_rl_at hn r)
          · exact Or.inr (u_rl_at hn r)
      have e1 := at_ i a ha
      have e2 := at_ j b hb
      rw [← q] at e2
      have := u_fp_ix hn i j (by omega) (by omega) _ e1 e2
      omega
theorem u_mnx {i : Nat} (hi : i < P.length) : u_pr P (u_mn P i) (u_mx P i) = true ∧ u_mn P i ∈ u_fp P := by
  have hp := u_getD_in hi
  have mm := u_getD_fp (P := P) hi
  unfold u_mn u_mx
  split
  · exact ⟨u_pr_iff.mpr (Or.inr hp), mm.2⟩
  · exact ⟨u_pr_iff.mpr (Or.inl hp), mm.1⟩
theorem u_mn_s0 (hg : u_pg P) : u_mn P (u_m0 P) = u_s0 P ∧ u_m0 P < P.length := by
  have ok := u_mp_ok (P := P) (P.length - 1) 1 0 (by have := hg.2.2.1; omega) (by omega) (fun i hi => by rw [show i = 0 by omega]; exact Nat.le_refl _)
  have e0 : u_mp P (P.length - 1) 1 0 = u_m0 P := rfl
  rw [e0] at ok
  obtain ⟨s1, s2⟩ := u_pg_s0 hg
  refine ⟨Nat.le_antisymm ?_ (s2 _ (u_mnx ok.1).2), ok.1⟩
  obtain ⟨p, hp, q⟩ := u_fp_mem.mp s1
  obtain ⟨j, hj, e⟩ := List.getElem_of_mem hp
  have := ok.2 j hj
  have ed : P.getD j (0, 0) = p := by rw [List.getD_eq_getElem?_getD, List.getElem?_eq_getElem hj]; exact e
  refine Nat.le_trans this ?_
  unfold u_mn
  rw [ed]
  rcases q with q | q
  · rw [q]; split <;> omega
  · rw [q]; split <;> omega
theorem u_xrw_mem (hg : u_pg P) : v ∈ u_xrw P ↔ u_rp P v := by
  obtain ⟨m1, m2⟩ := u_mn_s0 hg
  obtain ⟨p1, p2⟩ := u_mnx (P := P) m2
  have hl := hg.2.2.1
  unfold u_xrw
  rw [u_rl_mem hg.1]
  generalize hx0 : u_m0 P = i at *
  have mi : ∀ x, (x = u_mn P i ∨ x = u_mx P i) ↔ (x = (P.getD i (0, 0)).1 ∨ x = (P.getD i (0, 0)).2) := fun x => by
    unfold u_mn u_mx
    split
    · exact Or.comm
    · exact Iff.rfl
  constructor
  · rintro ⟨t, t1, t2, t3, t4, t5⟩
    have no : ∀ z ∈ t, z = u_mn P i ∨ z = u_mx P i → False := fun z hz q => by
      obtain ⟨j, j1, j2, j3⟩ := t4 z hz
      rw [Nat.testBit_two_pow] at j2
      exact of_decide_eq_false j2 (u_fp_ix hg.1 i j m2 j1 z ((mi z).mp q) j3)
    have hne : u_mn P i ≠ u_mx P i := fun q => by rw [q, u_pr_irr hg.1] at p1; cases p1
    rw [t1]
    refine ⟨by simp [t2]; omega, ?_, ?_, m1, p1, t5⟩
    · refine List.nodup_cons.mpr ⟨fun q => ?_, List.nodup_cons.mpr ⟨fun q => no _ q (Or.inr rfl), t3⟩⟩
      rcases List.mem_cons.mp q with q | q
      · exact hne q
      · exact no _ q (Or.inl rfl)
    · intro x hx
      rcases List.mem_cons.mp hx with q | q
      · rw [q]; exact p2
      · rcases List.mem_cons.mp q with q | q
        · rw [q]; exact (u_pr_mem p1).2
        · obtain ⟨j, j1, j2, j3⟩ := t4 x q
          have mm := u_getD_fp (P := P) j1
          rcases j3 with j3 | j3
          · rw [j3]; exact mm.1
          · rw [j3]; exact mm.2
  · rintro ⟨v1, v2, v3, v4, v5⟩
    obtain ⟨s, h, t, rfl⟩ := u_cons2 (v := v) (by omega)
    obtain ⟨n1, n2⟩ := List.nodup_cons.mp v2
    obtain ⟨n3, n4⟩ := List.nodup_cons.mp n2
    have es : s = u_mn P i := by rw [m1]; exact v4
    have eh : h = u_mx P i := u_pr_uniq hg.1 (es ▸ v5.1) p1
    refine ⟨t, by rw [es, eh]; rfl, by simp at v1; omega, n4, fun x hx => ?_, v5.2⟩
    obtain ⟨p, hp, q⟩ := u_fp_mem.mp (v3 x (List.mem_cons_of_mem _ (List.mem_cons_of_mem _ hx)))
    obtain ⟨j, hj, e⟩ := List.getElem_of_mem hp
    have ed : P.getD j (0, 0) = p := by rw [List.getD_eq_getElem?_getD, List.getElem?_eq_getElem hj]; exact e
    refine ⟨j, hj, ?_, by rw [ed]; exact q⟩
    rw [Nat.testBit_two_pow]
    refine decide_eq_false (fun r => ?_)
    subst r
    rw [← ed] at q
    rcases (mi x).mpr q with r | r
    · exact n1 (by rw [es, ← r]; exact List.mem_cons_of_mem _ hx)
    · exact n3 (by rw [eh, ← r]; exact hx)
end Ref
