/-! ===== within, guess: both speak of the same rounds ===== -/
section Lx
variable {a b c : List Nat}
theorem u_lx_irr : ∀ (k i : Nat), u_lx a a k i = false
  | 0, _ => rfl
  | k + 1, i => by rw [u_lx, if_pos rfl]; exact u_lx_irr k (i + 1)
theorem u_lx_asym : ∀ (k i : Nat), u_lx a b k i = true → u_lx b a k i = false
  | 0, _, h => by cases h
  | k + 1, i, h => by
    rw [u_lx] at h ⊢
    by_cases q : a.getD i 0 = b.getD i 0
    · rw [if_pos q] at h; rw [if_pos q.symm]; exact u_lx_asym k (i + 1) h
    · rw [if_neg q] at h; rw [if_neg (fun r => q r.symm)]
      have := of_decide_eq_true h
      exact decide_eq_false (by omega)
theorem u_lx_nt : ∀ (k i : Nat), u_lx a b k i = false → u_lx b c k i = false → u_lx a c k i = false
  | 0, _, _, _ => rfl
  | k + 1, i, h, g => by
    rw [u_lx] at h g ⊢
    by_cases q : a.getD i 0 = b.getD i 0
    · rw [if_pos q] at h
      rw [q]
      by_cases r : b.getD i 0 = c.getD i 0
      · rw [if_pos r] at g ⊢; exact u_lx_nt k (i + 1) h g
      · rw [if_neg r] at g ⊢; exact g
    · rw [if_neg q] at h
      have h1 := of_decide_eq_false h
      by_cases r : b.getD i 0 = c.getD i 0
      · rw [← r, if_neg q]; exact h
      · rw [if_neg r] at g
        have g1 := of_decide_eq_false g
        rw [if_neg (by omega)]
        exact decide_eq_false (by omega)
theorem u_lx_at {p : Nat} : ∀ (k i : Nat), i ≤ p → p < i + k → (∀ j, j < p → a.getD j 0 = b.getD j 0) → a.getD p 0 < b.getD p 0 → u_lx a b k i = true
  | 0, i, h1, h2, _, _ => by omega
  | k + 1, i, h1, h2, h3, h4 => by
    rw [u_lx]
    by_cases q : i = p
    · subst q
      rw [if_neg (by omega)]
      exact decide_eq_true h4
    · rw [if_pos (h3 i (by omega))]
      exact u_lx_at k (i + 1) (by omega) (by omega) h3 h4
/-- the least of those that were met -/
theorem u_bs_min {n : Nat} {f : List Nat → List Nat} : ∀ (l : List (List Nat)) (o : Option (List Nat)), (o = none → l = [] → l.foldl (fun o w => u_bs n o (f w)) o = none) ∧ ((o ≠ none ∨ l ≠ []) → ∃ b, l.foldl (fun o w => u_bs n o (f w)) o = some b ∧ ((∃ w ∈ l, b = f w) ∨ o = some b) ∧ (∀ w ∈ l, u_lx (f w) b n 0 = false) ∧ ∀ b0, o = some b0 → u_lx b0 b n 0 = false)
  | [], o => by
    refine ⟨fun h _ => h, fun h => ?_⟩
    rcases h with h | h
    · cases o with
      | none => exact absurd rfl h
      | some b => exact ⟨b, rfl, Or.inr rfl, fun w hw => (by cases hw), fun b0 hb => by cases hb; exact u_lx_irr n 0⟩
    · exact absurd rfl h
  | w :: l, o => by
    refine ⟨fun _ h => (by cases h), fun _ => ?_⟩
    have go : ∀ b1, u_bs n o (f w) = some b1 → ∃ b, l.foldl (fun o w => u_bs n o (f w)) (some b1) = some b ∧ ((∃ w ∈ l, b = f w) ∨ b1 = b) ∧ (∀ w ∈ l, u_lx (f w) b n 0 = false) ∧ u_lx b1 b n 0 = false := fun b1 _ => by
      obtain ⟨b, h1, h2, h3, h4⟩ := (u_bs_min (n := n) (f := f) l (some b1)).2 (Or.inl (by intro h; cases h))
      exact ⟨b, h1, h2.elim Or.inl (fun q => Or.inr (by cases q; rfl)), h3, h4 b1 rfl⟩
    rw [List.foldl_cons]
    cases o with
    | none =>
      obtain ⟨b, h1, h2, h3, h4⟩ := go (f w) rfl
      refine ⟨b, h1, Or.inl ?_, fun x hx => ?_, fun b0 hb => by cases hb⟩
      · rcases h2 with ⟨x, hx, q⟩ | q
        · exact ⟨x, List.mem_cons_of_mem _ hx, q⟩
        · exact ⟨w, List.mem_cons_self, q.symm⟩
      · rcases List.mem_cons.mp hx with q | q
        · rw [q]; exact h4
        · exact h3 x q
    | some b0 =>
      cases hx : u_lx (f w) b0 n 0
      · have e : u_bs n (some b0) (f w) = some b0 := by unfold u_bs; simp [hx]
        rw [e]
        obtain ⟨b, h1, h2, h3, h4⟩ := go b0 e
        refine ⟨b, h1, ?_, fun x hxx => ?_, fun b1 hb => by cases hb; exact h4⟩
        · rcases h2 with ⟨x, hx, q⟩ | q
          · exact Or.inl ⟨x, List.mem_cons_of_mem _ hx, q⟩
          · exact Or.inr (by rw [q])
        · rcases List.mem_cons.mp hxx with q | q
          · rw [q]; exact u_lx_nt n 0 hx h4
          · exact h3 x q
      · have e : u_bs n (some b0) (f w) = some (f w) := by unfold u_bs; simp [hx]
        rw [e]
        obtain ⟨b, h1, h2, h3, h4⟩ := go (f w) e
        refine ⟨b, h1, Or.inl ?_, fun x hxx => ?_, fun b1 hb => ?_⟩
        · rcases h2 with ⟨x, hx, q⟩ | q
          · exact ⟨x, List.mem_cons_of_mem _ hx, q⟩
          · exact ⟨w, List.mem_cons_self, q.symm⟩
        · rcases List.mem_cons.mp hxx with q | q
          · rw [q]; exact h4
          · exact h3 x q
        · cases hb
          exact u_lx_nt n 0 (u_lx_asym n 0 hx) h4
end Lx
section Pairs
variable {P : List (Nat × Nat)} {L lw : Nat} {one : Bool}
theorem u_pr_comm {x y : Nat} : u_pr P x y = u_pr P y x := by
  unfold u_pr
  exact decide_eq_decide.mpr Or.comm
theorem u_pr_iff {x y : Nat} : u_pr P x y = true ↔ ((x, y) ∈ P ∨ (y, x) ∈ P) := by unfold u_pr; exact decide_eq_true_iff
theorem u_pr_mem {x y : Nat} (h : u_pr P x y = true) : x ∈ u_fp P ∧ y ∈ u_fp P := by
  rcases u_pr_iff.mp h with q | q
  · exact ⟨u_fp_mem.mpr ⟨_, q, Or.inl rfl⟩, u_fp_mem.mpr ⟨_, q, Or.inr rfl⟩⟩
  · exact ⟨u_fp_mem.mpr ⟨_, q, Or.inr rfl⟩, u_fp_mem.mpr ⟨_, q, Or.inl rfl⟩⟩
/-- a hole of two pairs: one pair -/
theorem u_fp_one : ∀ {P : List (Nat × Nat)}, (u_fp P).Nodup → ∀ p ∈ P, ∀ q ∈ P, ∀ h, (h = p.1 ∨ h = p.2) → (h = q.1 ∨ h = q.2) → p = q
  | [], _, p, hp, _, _, _, _, _ => by cases hp
  | pr :: P, hn, p, hp, q, hq, h, h1, h2 => by
    rw [u_fp_cons] at hn
    obtain ⟨n1, n2⟩ := List.nodup_cons.mp hn
    obtain ⟨n3, n4⟩ := List.nodup_cons.mp n2
    have no : ∀ r ∈ P, ¬ ((h = r.1 ∨ h = r.2) ∧ (h = pr.1 ∨ h = pr.2)) := fun r hr ⟨g1, g2⟩ => by
      have hm : h ∈ u_fp P := u_fp_mem.mpr ⟨r, hr, g1⟩
      rcases g2 with g | g
      · exact n1 (List.mem_cons_of_mem _ (g ▸ hm))
      · exact n3 (g ▸ hm)
    rcases List.mem_cons.mp hp with e1 | e1
    · rcases List.mem_cons.mp hq with e2 | e2
      · rw [e1, e2]
      · exact absurd ⟨h2, e1 ▸ h1⟩ (no q e2)
    · rcases List.mem_cons.mp hq with e2 | e2
      · exact absurd ⟨h1, e2 ▸ h2⟩ (no p e1)
      · exact u_fp_one n4 p e1 q e2 h h1 h2
theorem u_fp_ne : ∀ {P : List (Nat × Nat)}, (u_fp P).Nodup → ∀ p ∈ P, p.1 ≠ p.2
  | [], _, p, hp => by cases hp
  | pr :: P, hn, p, hp => by
    rw [u_fp_cons] at hn
    obtain ⟨n1, n2⟩ := List.nodup_cons.mp hn
    rcases List.mem_cons.mp hp with e1 | e1
    · rw [e1]
      intro q
      exact n1 (q ▸ List.mem_cons_self)
    · exact u_fp_ne (List.nodup_cons.mp n2).2 p e1
theorem u_pr_uniq (hn : (u_fp P).Nodup) {x y z : Nat} (h1 : u_pr P x y = true) (h2 : u_pr P x z = true) : y = z := by
  have ne := u_fp_ne hn
  rcases u_pr_iff.mp h1 with q | q <;> rcases u_pr_iff.mp h2 with r | r
  · have := u_fp_one hn _ q _ r x (Or.inl rfl) (Or.inl rfl)
    exact (Prod.mk.inj this).2
  · have := u_fp_one hn _ q _ r x (Or.inl rfl) (Or.inr rfl)
    have e := Prod.mk.inj this
    exact absurd (e.1.trans rfl) (fun t => ne _ r (by show z = x; exact t.symm))
  · have := u_fp_one hn _ q _ r x (Or.inr rfl) (Or.inl rfl)
    have e := Prod.mk.inj this
    exact absurd e.1 (fun t => ne _ q t)
  · have := u_fp_one hn _ q _ r x (Or.inr rfl) (Or.inr rfl)
    exact (Prod.mk.inj this).1
theorem u_pr_irr (hn : (u_fp P).Nodup) {x : Nat} : u_pr P x x = false := by
  refine Bool.eq_false_iff.mpr (fun h => ?_)
  rcases u_pr_iff.mp h with q | q <;> exact u_fp_ne hn _ q rfl
theorem u_pr_ex {x : Nat} (h : x ∈ u_fp P) : ∃ y, u_pr P x y = true := by
  obtain ⟨p, hp, q⟩ := u_fp_mem.mp h
  rcases q with q | q
  · exact ⟨p.2, u_pr_iff.mpr (Or.inl (by rw [q]; exact hp))⟩
  · exact ⟨p.1, u_pr_iff.mpr (Or.inr (by rw [q]; exact hp))⟩
/-- pair behind pair, one hole perhaps at the end -/
def u_tq (P : List (Nat × Nat)) : List Nat → Prop
  | [] => True
  | [_] => True
  | x :: y :: t => u_pr P x y = true ∧ u_tq P t
def u_xcl (L lw : Nat) : Option Bool → Nat → List Nat → Bool
  | _, _, [] => true
  | a, last, h :: t => u_ma lw a (r_x L last h) && u_xcl L lw (some (r_x L last h)) h t
def u_fa (L : Nat) : Option Bool → Nat → List Nat → Option Bool
  | a, _, [] => a
  | _, last, h :: t => u_fa L (some (r_x L last h)) h t
def u_ho (L lw : Nat) (one : Bool) (v : List Nat) : Option Bool → Prop
  | none => False
  | some a => u_hm L lw one v a = true
theorem u_wl_add {w : List Nat} {h : Nat} : u_wl (w ++ [h]) = h := by
  unfold u_wl
  rw [List.length_append, List.length_singleton, Nat.add_sub_cancel, List.getD_eq_getElem?_getD, List.getElem?_append_right (Nat.le_refl _), Nat.sub_self]; rfl
theorem u_go_0 {w v : List Nat} {rest : Nat} {a : Option Bool} {free : Bool} : v ∈ u_go L lw P one 0 w rest a free ↔ v = w ∧ u_ho L lw one w a := by
  cases a with
  | none => exact ⟨fun h => (by cases h), fun h => h.2.elim⟩
  | some a =>
    show v ∈ (if u_hm L lw one w a then [w] else []) ↔ _
    unfold u_ho
    split
    · rename_i c
      rw [List.mem_singleton]
      exact ⟨fun h => ⟨h, c⟩, fun h => h.1⟩
    · rename_i c
      exact ⟨fun h => (by cases h), fun h => absurd h.2 c⟩
theorem u_go_mem {k rest : Nat} {w v : List Nat} {a : Option Bool} {free : Bool} : v ∈ u_go L lw P one (k + 1) w rest a free ↔ ∃ h, (h < 12 ∧ rest.testBit h = true) ∧ (free = true ∨ u_pr P (u_wl w) h = true) ∧ u_ma lw a (r_x L (u_wl w) h) = true ∧ v ∈ u_go L lw P one k (w ++ [h]) (w_rm rest h) (some (r_x L (u_wl w) h)) (decide (P.length = 0) || u_pr P (u_wl w) h) := by
  rw [u_go_succ, List.mem_flatMap]
  constructor
  · rintro ⟨h, h1, h2⟩
    unfold u_hs at h1
    rw [List.mem_filter, n_bits_mem, Bool.or_eq_true] at h1
    unfold u_bd at h2
    by_cases c : u_ma lw a (r_x L (u_wl w) h) = true
    · rw [if_pos c] at h2
      exact ⟨h, h1.1, h1.2, c, h2⟩
    · rw [if_neg c] at h2
      cases h2
  · rintro ⟨h, h1, h2, h3, h4⟩
    refine ⟨h, ?_, ?_⟩
    · unfold u_hs
      rw [List.mem_filter, n_bits_mem, Bool.or_eq_true]
      exact ⟨h1, h2⟩
    · unfold u_bd
      rw [if_pos h3]; exact h4
/-- forced -/
theorem u_go_forced {k rest : Nat} {w v : List Nat} {a : Option Bool} : v ∈ u_go L lw P one (k + 1) w rest a false ↔ ∃ h, (h < 12 ∧ rest.testBit h = true) ∧ u_pr P (u_wl w) h = true ∧ u_ma lw a (r_x L (u_wl w) h) = true ∧ v ∈ u_go L lw P one k (w ++ [h]) (w_rm rest h) (some (r_x L (u_wl w) h)) true := by
  rw [u_go_mem]
  constructor
  · rintro ⟨h, h1, h2, h3, h4⟩
    have hp : u_pr P (u_wl w) h = true := h2.elim (fun q => (by cases q)) id
    rw [hp, Bool.or_true] at h4
    exact ⟨h, h1, hp, h3, h4⟩
  · rintro ⟨h, h1, h2, h3, h4⟩
    exact ⟨h, h1, Or.inr h2, h3, by rw [h2, Bool.or_true]; exact h4⟩
/-- free, and the last hole's partner is behind -/
theorem u_go_free (hn : (u_fp P).Nodup) (hP : P.length ≠ 0) {v : List Nat} : ∀ (k : Nat) (w : List Nat) (rest : Nat) (a : Option Bool), n_pop rest = k → rest < 4096 → (∀ h, rest.testBit h = true → u_pr P (u_wl w) h = false) → (v ∈ u_go L lw P one k w rest a true ↔ ∃ t, v = w ++ t ∧ t.length = k ∧ t.Nodup ∧ (∀ x ∈ t, rest.testBit x = true) ∧ u_tq P t ∧ u_xcl L lw a (u_wl w) t = true ∧ u_ho L lw one v (u_fa L a (u_wl w) t))
  | 0, w, rest, a, hp, hr, hno => by
    rw [u_go_0]
    constructor
    · rintro ⟨rfl, h⟩
      exact ⟨[], (List.append_nil _).symm, rfl, List.nodup_nil, fun x hx => (by cases hx), trivial, rfl, h⟩
    · rintro ⟨t, h1, h2, -, -, -, -, h7⟩
      have : t = [] := List.length_eq_zero_iff.mp h2
      subst this
      rw [List.append_nil] at h1
      subst h1
      exact ⟨rfl, h7⟩
  | 1, w, rest, a, hp, hr, hno => by
    rw [u_go_mem]
    constructor
    · rintro ⟨h, h1, -, h3, h4⟩
      rw [u_go_0] at h4
      refine ⟨[h], h4.1, rfl, List.nodup_cons.mpr ⟨(by intro q; cases q), List.nodup_nil⟩, fun x hx => by rw [List.mem_singleton] at hx; rw [hx]; exact h1.2, trivial, ?_, ?_⟩
      · show (u_ma lw a (r_x L (u_wl w) h) && true) = true
        rw [h3]; rfl
      · rw [h4.1]; exact h4.2
    · rintro ⟨t, h1, h2, h3, h4, -, h6, h7⟩
      obtain ⟨h, rfl⟩ := List.length_eq_one_iff.mp h2
      have hb := h4 h List.mem_cons_self
      have h6' : (u_ma lw a (r_x L (u_wl w) h) && true) = true := h6
      rw [Bool.and_true] at h6'
      refine ⟨h, ⟨?_, hb⟩, Or.inl rfl, h6', ?_⟩
      · by_cases q : h < 12
        · exact q
        · rw [Nat.testBit_lt_two_pow (Nat.lt_of_lt_of_le hr (Nat.pow_le_pow_right (n := 2) (by decide) (show 12 ≤ h by omega)))] at hb
          cases hb
      · rw [u_go_0]
        rw [h1] at h7
        exact ⟨h1, h7⟩
  | k + 2, w, rest, a, hp, hr, hno => by
    have b12 : ∀ h, rest.testBit h = true → h < 12 := fun h hb => by
      by_cases q : h < 12
      · exact q
      · rw [Nat.testBit_lt_two_pow (Nat.lt_of_lt_of_le hr (Nat.pow_le_pow_right (n := 2) (by decide) (show 12 ≤ h by omega)))] at hb
        cases hb
    have step : ∀ h y, rest.testBit h = true → (w_rm rest h).testBit y = true → u_pr P h y = true → (v ∈ u_go L lw P one k (w ++ [h] ++ [y]) (w_rm (w_rm rest h) y) (some (r_x L h y)) true ↔ ∃ t, v = w ++ [h] ++ [y] ++ t ∧ t.length = k ∧ t.Nodup ∧ (∀ x ∈ t, (w_rm (w_rm rest h) y).testBit x = true) ∧ u_tq P t ∧ u_xcl L lw (some (r_x L h y)) y t = true ∧ u_ho L lw one v (u_fa L (some (r_x L h y)) y t)) := fun h y h1 h2 h3 => by
      have p1 := n_pop_rm hr h1
      have r1 : w_rm rest h < 4096 := Nat.lt_of_le_of_lt (w_rm_le _ _) hr
      have p2 := n_pop_rm r1 h2
      have r2 : w_rm (w_rm rest h) y < 4096 := Nat.lt_of_le_of_lt (w_rm_le _ _) r1
      have := u_go_free hn hP (v := v) k (w ++ [h] ++ [y]) (w_rm (w_rm rest h) y) (some (r_x L h y)) (by omega) r2 (fun z hz => by
        rw [u_wl_add]
        refine Bool.eq_false_iff.mpr (fun q => ?_)
        have e := u_pr_uniq hn (u_pr_comm ▸ h3) q
        rw [w_rm_bit, w_rm_bit, ← e] at hz
        simp at hz)
      rw [u_wl_add] at this
      exact this
    rw [u_go_mem]
    constructor
    · rintro ⟨h, h1, -, h3, h4⟩
      rw [hno h h1.2, decide_eq_false hP, Bool.or_false, u_go_forced] at h4
      obtain ⟨y, g1, g2, g3, g4⟩ := h4
      rw [u_wl_add] at g2 g3 g4
      obtain ⟨t, t1, t2, t3, t4, t5, t6, t7⟩ := (step h y h1.2 g1.2 g2).mp g4
      refine ⟨h :: y :: t, by rw [t1]; simp, by simp [t2], ?_, ?_, ⟨g2, t5⟩, ?_, t7⟩
      · have gy := g1.2
        rw [w_rm_bit, Bool.and_eq_true] at gy
        refine List.nodup_cons.mpr ⟨fun q => ?_, List.nodup_cons.mpr ⟨fun q => ?_, t3⟩⟩
        · rcases List.mem_cons.mp q with e | e
          · have := of_decide_eq_true gy.2; exact this e.symm
          · have := t4 h e
            rw [w_rm_bit, w_rm_bit] at this
            simp at this
        · have := t4 y q
          rw [w_rm_bit] at this
          simp at this
      · intro x hx
        rcases List.mem_cons.mp hx with e | e
        · rw [e]; exact h1.2
        · rcases List.mem_cons.mp e with e | e
          · have gy := g1.2
            rw [w_rm_bit, Bool.and_eq_true] at gy
            rw [e]; exact gy.1
          · have := t4 x e
            rw [w_rm_bit, w_rm_bit, Bool.and_eq_true, Bool.and_eq_true] at this
            exact this.1.1
      · show (u_ma lw a (r_x L (u_wl w) h) && (u_ma lw (some (r_x L (u_wl w) h)) (r_x L h y) && u_xcl L lw (some (r_x L h y)) y t)) = true
        rw [h3, g3, t6]; rfl
    · rintro ⟨t, t1, t2, t3, t4, t5, t6, t7⟩
      obtain ⟨h, y, t', rfl⟩ : ∃ h y t', t = h :: y :: t' := by
        cases t with
        | nil => cases t2
        | cons h t => cases t with
          | nil => simp at t2
          | cons y t => exact ⟨h, y, t, rfl⟩
      have c6 : (u_ma lw a (r_x L (u_wl w) h) && (u_ma lw (some (r_x L (u_wl w) h)) (r_x L h y) && u_xcl L lw (some (r_x L h y)) y t')) = true := t6
      rw [Bool.and_eq_true, Bool.and_eq_true] at c6
      obtain ⟨n1, n2⟩ := List.nodup_cons.mp t3
      obtain ⟨n3, n4⟩ := List.nodup_cons.mp n2
      have hh := t4 h List.mem_cons_self
      have hy := t4 y (List.mem_cons_of_mem _ List.mem_cons_self)
      have hyr : (w_rm rest h).testBit y = true := by
        rw [w_rm_bit, hy, Bool.true_and]
        exact decide_eq_true (fun q => n1 (q ▸ List.mem_cons_self))
      refine ⟨h, ⟨b12 h hh, hh⟩, Or.inl rfl, c6.1, ?_⟩
      rw [hno h hh, decide_eq_false hP, Bool.or_false, u_go_forced]
      refine ⟨y, ⟨b12 y hy, hyr⟩, by rw [u_wl_add]; exact t5.1, by rw [u_wl_add]; exact c6.2.1, ?_⟩
      rw [u_wl_add]
      refine (step h y hh hyr t5.1).mpr ⟨t', by rw [t1]; simp, by simpa using t2, n4, fun x hx => ?_, t5.2, c6.2.2, t7⟩
      have := t4 x (List.mem_cons_of_mem _ (List.mem_cons_of_mem _ hx))
      rw [w_rm_bit, w_rm_bit, this, Bool.true_and, Bool.and_eq_true]
      exact ⟨decide_eq_true (fun q => n1 (q ▸ List.mem_cons_of_mem _ hx)), decide_eq_true (fun q => n3 (q ▸ hx))⟩
end Pairs
