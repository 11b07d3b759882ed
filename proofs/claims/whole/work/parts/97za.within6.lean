/-! ===== within, guess: one number, one round ===== -/
section One
variable {P : List (Nat × Nat)} {L lw : Nat} {one : Bool} {v : List Nat}
theorem u_go_pre : ∀ (k : Nat) (w : List Nat) (rest : Nat) (a : Option Bool) (free : Bool), v ∈ u_go L lw P one k w rest a free → ∃ t, v = w ++ t
  | 0, w, rest, a, free, h => ⟨[], by rw [(u_go_0.mp h).1, List.append_nil]⟩
  | k + 1, w, rest, a, free, h => by
    obtain ⟨x, -, -, -, h4⟩ := u_go_mem.mp h
    obtain ⟨t, ht⟩ := u_go_pre k _ _ _ _ h4
    exact ⟨x :: t, by rw [ht]; simp⟩
theorem u_go_sorted {n : Nat} : ∀ (k : Nat) (w : List Nat) (rest : Nat) (a : Option Bool) (free : Bool), w.length + k = n → (u_go L lw P one k w rest a free).Pairwise (fun x y => u_lx x y n 0 = true)
  | 0, w, rest, a, free, _ => by
    cases a with
    | none => exact List.Pairwise.nil
    | some a =>
      show (if u_hm L lw one w a then [w] else []).Pairwise _
      split
      · exact List.pairwise_singleton _ _
      · exact List.Pairwise.nil
  | k + 1, w, rest, a, free, hk => by
    rw [u_go_succ]
    have inb : ∀ h, ∀ x ∈ u_bd L lw P one k w rest a h, ∃ t, x = (w ++ [h]) ++ t := fun h x hx => by
      unfold u_bd at hx
      split at hx
      · exact u_go_pre k _ _ _ _ hx
      · cases hx
    refine List.pairwise_flatMap.mpr ⟨fun h _ => ?_, ?_⟩
    · unfold u_bd
      split
      · exact u_go_sorted k _ _ _ _ (by simp; omega)
      · exact List.Pairwise.nil
    · have hs : (u_hs P rest (u_wl w) free).Pairwise (fun a b => a < b) := by
        unfold u_hs n_bits
        exact List.Pairwise.filter _ (List.Pairwise.filter _ List.pairwise_lt_range)
      refine List.Pairwise.imp ?_ hs
      intro h1 h2 hlt x hx y hy
      obtain ⟨t1, e1⟩ := inb h1 x hx
      obtain ⟨t2, e2⟩ := inb h2 y hy
      refine u_lx_at (p := w.length) n 0 (Nat.zero_le _) (by omega) (fun j hj => ?_) ?_
      · rw [e1, e2, List.append_assoc, List.append_assoc, List.getD_eq_getElem?_getD, List.getD_eq_getElem?_getD, List.getElem?_append_left hj, List.getElem?_append_left hj]
      · rw [e1, e2, List.append_assoc, List.append_assoc, List.getD_eq_getElem?_getD, List.getD_eq_getElem?_getD, List.getElem?_append_right (Nat.le_refl _), List.getElem?_append_right (Nat.le_refl _), Nat.sub_self]
        exact hlt
theorem u_go_nodup {k rest : Nat} {w : List Nat} {a : Option Bool} {free : Bool} : (u_go L lw P one k w rest a free).Nodup := by
  refine List.Pairwise.imp ?_ (u_go_sorted (L := L) (lw := lw) (P := P) (one := one) k w rest a free rfl)
  intro x y h q
  rw [q, u_lx_irr] at h
  cases h
theorem n_subl {α : Type} [DecidableEq α] : ∀ {l l' : List α}, l.Nodup → (∀ x, x ∈ l → x ∈ l') → l.length ≤ l'.length
  | [], _, _, _ => Nat.zero_le _
  | a :: l, l', h, hs => by
    obtain ⟨h1, h2⟩ := List.nodup_cons.mp h
    have ha := hs a List.mem_cons_self
    have := n_subl (l' := l'.erase a) h2 (fun x hx => (List.mem_erase_of_ne (fun q => h1 (by rw [← q]; exact hx))).mpr (hs x (List.mem_cons_of_mem _ hx)))
    rw [List.length_erase_of_mem ha] at this
    have hl := List.length_pos_of_mem ha
    rw [List.length_cons]
    omega
theorem u_within (hg : u_pg P) : (u_xwi L lw P).length = u_ct L lw (u_xrw P) := by
  have h1 : (u_xwi L lw P).Nodup := u_go_nodup
  have h2 : ((u_xrw P).filter (u_la L lw)).Nodup := List.Pairwise.filter _ (u_rl_nodup hg.1 _ _ _)
  have h3 : ∀ v, v ∈ (u_xrw P).filter (u_la L lw) ↔ v ∈ u_xwi L lw P := fun v => by
    rw [List.mem_filter, u_xrw_mem hg, u_xwi_mem hg]
  unfold u_ct
  exact Nat.le_antisymm (n_subl h1 (fun x hx => (h3 x).mpr hx)) (n_subl h2 (fun x hx => (h3 x).mp hx))
theorem u_rp_min (hg : u_pg P) (h : u_rp P v) : v ≠ [] ∧ ∀ x ∈ v, v.getD 0 0 ≤ x := by
  obtain ⟨v1, v2, v3, v4, v5⟩ := h
  refine ⟨fun q => by rw [q] at v1; have := hg.2.2.1; simp at v1; omega, fun x hx => ?_⟩
  rw [v4]
  exact (u_pg_s0 hg).2 x (v3 x hx)
theorem u_wl_rev {s h : Nat} {t : List Nat} : u_wl (s :: (h :: t).reverse) = h := by
  rw [List.reverse_cons, show s :: (t.reverse ++ [h]) = (s :: t.reverse) ++ [h] from rfl, u_wl_add]
/-- own forms of the reference's are the class's -/
theorem u_own_gu (hg : u_pg P) (h : u_rp P v) (hl : u_la L lw v = true) : q_own v ∈ u_gu L lw P := by
  obtain ⟨hn, hm⟩ := u_rp_min hg h
  obtain ⟨v1, v2, v3, v4, v5⟩ := h
  have h2 := hg.2.2.1
  rw [u_own hn hm, u_gu_mem hg]
  by_cases c : v.getD 1 0 < u_wl v
  · rw [if_pos ⟨c, by omega⟩]
    exact ⟨⟨v1, v2, v3, v4, Or.inl v5, c⟩, hl⟩
  · rw [if_neg (fun r => c r.1)]
    refine ⟨⟨by rw [u_rv_len]; exact v1, ?_, ?_, ?_, ?_, ?_⟩, by rw [u_rv_la hn]; exact hl⟩
    all_goals obtain ⟨s, p, t, rfl⟩ := u_cons2 (v := v) (by omega)
    all_goals rw [u_rv_cons]
    · obtain ⟨n1, n2⟩ := List.nodup_cons.mp v2
      exact List.nodup_cons.mpr ⟨fun q => n1 (List.mem_reverse.mp q), List.pairwise_reverse.mpr (List.Pairwise.imp (fun q => Ne.symm q) n2)⟩
    · intro x hx
      rcases List.mem_cons.mp hx with q | q
      · rw [q]; exact v3 s List.mem_cons_self
      · exact v3 x (List.mem_cons_of_mem _ (List.mem_reverse.mp q))
    · exact v4
    · refine Or.inr ?_
      show u_tq P (p :: t).reverse
      have v5' : u_pr P s p = true ∧ u_tq P t := v5
      have lt : t.length % 2 = 0 := by simp at v1; omega
      rw [List.reverse_cons]
      exact (u_tq_snoc1 (by rw [List.length_reverse]; exact lt)).mpr (u_tq_rev lt v5'.2)
    · rw [u_wl_rev]
      have lt : 1 ≤ t.length := by simp at v1; omega
      have e1 : (s :: (p :: t).reverse).getD 1 0 = u_wl (s :: p :: t) := by
        unfold u_wl
        rw [List.getD_cons_succ]
        simp only [List.length_cons, Nat.add_sub_cancel, List.reverse_cons]
        rw [show t.length + 1 = (t.length) + 1 from rfl, List.getD_cons_succ]
        obtain ⟨k, hk⟩ : ∃ k, t.length = k + 1 := ⟨t.length - 1, by omega⟩
        rw [hk, List.getD_cons_succ, List.getD_eq_getElem?_getD, List.getD_eq_getElem?_getD, List.getElem?_append_left (by rw [List.length_reverse]; omega), List.getElem?_reverse (by omega)]
        rw [show t.length - 1 - 0 = k by omega]
      rw [e1]
      have ne : u_wl (s :: p :: t) ≠ p := fun q => by
        obtain ⟨n1, n2⟩ := List.nodup_cons.mp v2
        obtain ⟨n3, n4⟩ := List.nodup_cons.mp n2
        refine n3 (q ▸ ?_)
        unfold u_wl
        obtain ⟨k, hk⟩ : ∃ k, t.length = k + 1 := ⟨t.length - 1, by omega⟩
        simp only [List.length_cons, Nat.add_sub_cancel]
        rw [hk, List.getD_cons_succ, List.getD_cons_succ, List.getD_eq_getElem?_getD, List.getElem?_eq_getElem (by omega)]
        exact List.getElem_mem _
      have c' : ¬ p < u_wl (s :: p :: t) := c
      omega
theorem u_gu_own (hg : u_pg P) (h : v ∈ u_gu L lw P) : ∃ c, u_rp P c ∧ u_la L lw c = true ∧ q_own c = v := by
  obtain ⟨⟨v1, v2, v3, v4, v5, v6⟩, hl⟩ := (u_gu_mem hg).mp h
  have h2 := hg.2.2.1
  have hn : v ≠ [] := fun q => by rw [q] at v1; simp at v1; omega
  have hm : ∀ x ∈ v, v.getD 0 0 ≤ x := fun x hx => by rw [v4]; exact (u_pg_s0 hg).2 x (v3 x hx)
  rcases v5 with v5 | v5
  · refine ⟨v, ⟨v1, v2, v3, v4, v5⟩, hl, ?_⟩
    rw [u_own hn hm, if_pos ⟨v6, by omega⟩]
  · refine ⟨u_rv v, ?_, by rw [u_rv_la hn]; exact hl, ?_⟩
    · refine ⟨by rw [u_rv_len]; exact v1, ?_, ?_, ?_, ?_⟩
      all_goals obtain ⟨s, t, rfl⟩ := List.exists_cons_of_ne_nil hn
      all_goals rw [u_rv_cons]
      · obtain ⟨n1, n2⟩ := List.nodup_cons.mp v2
        exact List.nodup_cons.mpr ⟨fun q => n1 (List.mem_reverse.mp q), List.pairwise_reverse.mpr (List.Pairwise.imp (fun q => Ne.symm q) n2)⟩
      · intro x hx
        rcases List.mem_cons.mp hx with q | q
        · rw [q]; exact v3 s List.mem_cons_self
        · exact v3 x (List.mem_cons_of_mem _ (List.mem_reverse.mp q))
      · exact v4
      · obtain ⟨n1, n2⟩ := List.nodup_cons.mp v2
        have es : s = u_s0 P := v4
        have v5' : u_tq P t := v5
        have tn : t ≠ [] := fun q => by rw [q] at v1; simp at v1; omega
        obtain ⟨a, z, rfl⟩ : ∃ a z, t = a ++ [z] := ⟨t.dropLast, t.getLast tn, (List.dropLast_concat_getLast tn).symm⟩
        have la : a.length % 2 = 0 := by simp at v1; omega
        have ta : u_tq P a := (u_tq_snoc1 la).mp v5'
        obtain ⟨p, hp⟩ := u_pr_ex (u_pg_s0 hg).1
        rw [← es] at hp
        have full : ∀ x ∈ u_fp P, x ∈ s :: (a ++ [z]) := fun x hx => by
          by_cases c : x ∈ s :: (a ++ [z])
          · exact c
          · exfalso
            have := n_subl (l := x :: s :: (a ++ [z])) (l' := u_fp P) (List.nodup_cons.mpr ⟨c, v2⟩) (fun y hy => by
              rcases List.mem_cons.mp hy with q | q
              · rw [q]; exact hx
              · exact v3 y q)
            rw [u_fp_len, List.length_cons, v1] at this
            omega
        have pz : p = z := by
          rcases List.mem_cons.mp (full p (u_pr_mem hp).2) with q | q
          · rw [q, u_pr_irr hg.1] at hp; cases hp
          · rcases List.mem_append.mp q with q | q
            · exact absurd (List.mem_append.mpr (Or.inl (u_tq_mem hg.1 la ta q (by rw [u_pr_comm]; exact hp)))) n1
            · exact List.mem_singleton.mp q
        rw [List.reverse_append]
        exact ⟨by rw [← pz]; exact hp, u_tq_rev la ta⟩
    · have hr : u_rv v ≠ [] := fun q => by
        have := u_rv_len (v := v)
        rw [q] at this
        exact hn (List.length_eq_zero_iff.mp this.symm)
      have hmr : ∀ x ∈ u_rv v, (u_rv v).getD 0 0 ≤ x := fun x hx => by
        obtain ⟨s, t, rfl⟩ := List.exists_cons_of_ne_nil hn
        rw [u_rv_cons] at hx ⊢
        rcases List.mem_cons.mp hx with q | q
        · rw [q]; exact Nat.le_refl _
        · exact hm x (List.mem_cons_of_mem _ (List.mem_reverse.mp q))
      rw [u_own hr hmr]
      obtain ⟨s, y, t, rfl⟩ := u_cons2 (v := v) (by omega)
      have e1 : u_wl (u_rv (s :: y :: t)) = y := by rw [u_rv_cons, u_wl_rev]
      have e2 : (u_rv (s :: y :: t)).getD 1 0 = u_wl (s :: y :: t) := by
        rw [u_rv_cons]
        unfold u_wl
        have lt : 1 ≤ t.length := by simp at v1; omega
        rw [List.getD_cons_succ]
        simp only [List.length_cons, Nat.add_sub_cancel, List.reverse_cons]
        obtain ⟨k, hk⟩ : ∃ k, t.length = k + 1 := ⟨t.length - 1, by omega⟩
        rw [hk, List.getD_cons_succ, List.getD_cons_succ, List.getD_eq_getElem?_getD, List.getD_eq_getElem?_getD, List.getElem?_append_left (by rw [List.length_reverse]; omega), List.getElem?_reverse (by omega)]
        rw [show t.length - 1 - 0 = k by omega]
      have v6' : y < u_wl (s :: y :: t) := v6
      rw [if_neg (fun r => by have := r.1; rw [e1, e2] at this; omega), u_rv_cons, u_rv_cons, List.reverse_reverse]
theorem u_guess (hg : u_pg P) : (u_ft L lw (2 * P.length) none (u_xrw P) = none ↔ u_gu L lw P = []) ∧ ∀ b v l, u_ft L lw (2 * P.length) none (u_xrw P) = some b → u_gu L lw P = v :: l → b = v := by
  obtain ⟨m1, m2⟩ := u_bs_min (n := 2 * P.length) (f := q_own) ((u_xrw P).filter (u_la L lw)) none
  have hmem : ∀ v, v ∈ (u_xrw P).filter (u_la L lw) ↔ (u_rp P v ∧ u_la L lw v = true) := fun v => by rw [List.mem_filter, u_xrw_mem hg]
  have sorted : (u_gu L lw P).Pairwise (fun x y => u_lx x y (2 * P.length) 0 = true) := u_go_sorted (2 * P.length - 1) [u_s0 P] _ none true (by have := hg.2.2.1; simp; omega)
  have e : u_ft L lw (2 * P.length) none (u_xrw P) = ((u_xrw P).filter (u_la L lw)).foldl (fun o w => u_bs (2 * P.length) o (q_own w)) none := rfl
  constructor
  · rw [e]
    constructor
    · intro h
      cases hgu : u_gu L lw P with
      | nil => rfl
      | cons v l =>
        exfalso
        obtain ⟨c, c1, c2, c3⟩ := u_gu_own (L := L) (lw := lw) hg (v := v) (by rw [hgu]; exact List.mem_cons_self)
        have hc := (hmem c).mpr ⟨c1, c2⟩
        obtain ⟨b, hb, -⟩ := m2 (Or.inr (fun q => by rw [q] at hc; cases hc))
        rw [hb] at h
        cases h
    · intro h
      refine m1 rfl ?_
      cases hl : (u_xrw P).filter (u_la L lw) with
      | nil => rfl
      | cons c l =>
        exfalso
        have hc := (hmem c).mp (by rw [hl]; exact List.mem_cons_self)
        have := u_own_gu hg hc.1 hc.2
        rw [h] at this
        cases this
  · intro b v l hb hv
    rw [e] at hb
    have hvm : v ∈ u_gu L lw P := by rw [hv]; exact List.mem_cons_self
    obtain ⟨c, c1, c2, c3⟩ := u_gu_own hg hvm
    have hc := (hmem c).mpr ⟨c1, c2⟩
    obtain ⟨b', hb', hbm, hmin, -⟩ := m2 (Or.inr (fun q => by rw [q] at hc; cases hc))
    rw [hb'] at hb
    cases hb
    obtain ⟨c', hc', ec'⟩ := hbm.elim id (fun q => (by cases q))
    have hcm := (hmem c').mp hc'
    have bg := u_own_gu hg hcm.1 hcm.2
    rw [← ec', hv] at bg
    rw [hv] at sorted
    rcases List.mem_cons.mp bg with q | q
    · exact q
    · have s1 := (List.pairwise_cons.mp sorted).1 b q
      have s2 := hmin c hc
      rw [c3, s1] at s2
      cases s2
end One
