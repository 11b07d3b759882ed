/-! ===== within, guess: who is in the class's lists ===== -/
section Mem
variable {P : List (Nat × Nat)} {L lw : Nat} {one : Bool} {v : List Nat}
/-- what is known of a picture of two pairs or more -/
def u_pg (P : List (Nat × Nat)) : Prop := (u_fp P).Nodup ∧ (∀ h ∈ u_fp P, h < 12) ∧ 2 ≤ P.length ∧ P.length ≤ 6
theorem u_pg_S (h : u_pg P) : q_bits (u_fp P) < 4096 ∧ n_pop (q_bits (u_fp P)) = 2 * P.length := by
  refine ⟨Nat.lt_pow_two_of_testBit (n := 12) _ (fun i hi => ?_), ?_⟩
  · rw [q_bits_bit]
    exact decide_eq_false (fun q => by have := h.2.1 i q; omega)
  · rw [n_pop_bits h.1 h.2.1, u_fp_len]
theorem u_pg_s0 (h : u_pg P) : u_s0 P ∈ u_fp P ∧ ∀ x ∈ u_fp P, u_s0 P ≤ x := u_s0_ok h.2.1 (fun q => by have := h.2.2.1; rw [q] at this; simp at this)
def u_r0 (P : List (Nat × Nat)) : Nat := w_rm (q_bits (u_fp P)) (u_s0 P)
theorem u_r0_bit {x : Nat} : (u_r0 P).testBit x = true ↔ (x ∈ u_fp P ∧ x ≠ u_s0 P) := by
  unfold u_r0
  rw [w_rm_bit, q_bits_bit, Bool.and_eq_true, decide_eq_true_iff, decide_eq_true_iff]
theorem u_r0_ok (h : u_pg P) : u_r0 P < 4096 ∧ n_pop (u_r0 P) + 1 = 2 * P.length := by
  obtain ⟨h1, h2⟩ := u_pg_S h
  refine ⟨Nat.lt_of_le_of_lt (w_rm_le _ _) h1, ?_⟩
  rw [← h2]
  exact n_pop_rm h1 (by rw [q_bits_bit]; exact decide_eq_true (u_pg_s0 h).1)
theorem u_wl_one {s : Nat} : u_wl [s] = s := rfl
theorem u_go_a (hg : u_pg P) {h : Nat} (hh : (u_r0 P).testBit h = true) (hp : u_pr P (u_s0 P) h = true) : v ∈ u_go L lw P one (2 * P.length - 2) ([u_s0 P] ++ [h]) (w_rm (u_r0 P) h) (some (r_x L (u_s0 P) h)) true ↔ ∃ t, v = u_s0 P :: h :: t ∧ t.length = 2 * P.length - 2 ∧ t.Nodup ∧ (∀ x ∈ t, x ∈ u_fp P ∧ x ≠ u_s0 P ∧ x ≠ h) ∧ u_tq P t ∧ u_xcl L lw (some (r_x L (u_s0 P) h)) h t = true ∧ u_ho L lw one v (u_fa L (some (r_x L (u_s0 P) h)) h t) := by
  obtain ⟨r1, r2⟩ := u_r0_ok hg
  have p1 := n_pop_rm r1 hh
  have f := u_go_free (L := L) (lw := lw) (one := one) hg.1 (by have := hg.2.2.1; omega) (v := v) (2 * P.length - 2) ([u_s0 P] ++ [h]) (w_rm (u_r0 P) h) (some (r_x L (u_s0 P) h)) (by omega) (Nat.lt_of_le_of_lt (w_rm_le _ _) r1) (fun z hz => by
    rw [u_wl_add]
    refine Bool.eq_false_iff.mpr (fun q => ?_)
    have e := u_pr_uniq hg.1 (u_pr_comm ▸ hp) q
    rw [w_rm_bit, Bool.and_eq_true, u_r0_bit] at hz
    exact hz.1.2 e.symm)
  rw [u_wl_add] at f
  rw [f]
  constructor
  · rintro ⟨t, t1, t2, t3, t4, t5, t6, t7⟩
    refine ⟨t, t1, t2, t3, fun x hx => ?_, t5, t6, t7⟩
    have := t4 x hx
    rw [w_rm_bit, Bool.and_eq_true, u_r0_bit, decide_eq_true_iff] at this
    exact ⟨this.1.1, this.1.2, this.2⟩
  · rintro ⟨t, t1, t2, t3, t4, t5, t6, t7⟩
    refine ⟨t, t1, t2, t3, fun x hx => ?_, t5, t6, t7⟩
    rw [w_rm_bit, Bool.and_eq_true, u_r0_bit, decide_eq_true_iff]
    exact ⟨⟨(t4 x hx).1, (t4 x hx).2.1⟩, (t4 x hx).2.2⟩
theorem u_go_b (hg : u_pg P) {h y : Nat} (hh : (u_r0 P).testBit h = true) (hy : (w_rm (u_r0 P) h).testBit y = true) (hp : u_pr P h y = true) : v ∈ u_go L lw P one (2 * P.length - 3) ([u_s0 P] ++ [h] ++ [y]) (w_rm (w_rm (u_r0 P) h) y) (some (r_x L h y)) true ↔ ∃ t, v = u_s0 P :: h :: y :: t ∧ t.length = 2 * P.length - 3 ∧ t.Nodup ∧ (∀ x ∈ t, x ∈ u_fp P ∧ x ≠ u_s0 P ∧ x ≠ h ∧ x ≠ y) ∧ u_tq P t ∧ u_xcl L lw (some (r_x L h y)) y t = true ∧ u_ho L lw one v (u_fa L (some (r_x L h y)) y t) := by
  obtain ⟨r1, r2⟩ := u_r0_ok hg
  have p1 := n_pop_rm r1 hh
  have r1' : w_rm (u_r0 P) h < 4096 := Nat.lt_of_le_of_lt (w_rm_le _ _) r1
  have p2 := n_pop_rm r1' hy
  have f := u_go_free (L := L) (lw := lw) (one := one) hg.1 (by have := hg.2.2.1; omega) (v := v) (2 * P.length - 3) ([u_s0 P] ++ [h] ++ [y]) (w_rm (w_rm (u_r0 P) h) y) (some (r_x L h y)) (by omega) (Nat.lt_of_le_of_lt (w_rm_le _ _) r1') (fun z hz => by
    rw [u_wl_add]
    refine Bool.eq_false_iff.mpr (fun q => ?_)
    have e := u_pr_uniq hg.1 (u_pr_comm ▸ hp) q
    rw [w_rm_bit, w_rm_bit, Bool.and_eq_true, Bool.and_eq_true] at hz
    exact absurd e.symm (of_decide_eq_true hz.1.2))
  rw [u_wl_add] at f
  rw [f]
  constructor
  · rintro ⟨t, t1, t2, t3, t4, t5, t6, t7⟩
    refine ⟨t, t1, t2, t3, fun x hx => ?_, t5, t6, t7⟩
    have := t4 x hx
    rw [w_rm_bit, w_rm_bit, Bool.and_eq_true, Bool.and_eq_true, u_r0_bit, decide_eq_true_iff, decide_eq_true_iff] at this
    exact ⟨this.1.1.1, this.1.1.2, this.1.2, this.2⟩
  · rintro ⟨t, t1, t2, t3, t4, t5, t6, t7⟩
    refine ⟨t, t1, t2, t3, fun x hx => ?_, t5, t6, t7⟩
    rw [w_rm_bit, w_rm_bit, Bool.and_eq_true, Bool.and_eq_true, u_r0_bit, decide_eq_true_iff, decide_eq_true_iff]
    exact ⟨⟨⟨(t4 x hx).1, (t4 x hx).2.1⟩, (t4 x hx).2.2.1⟩, (t4 x hx).2.2.2⟩
theorem u_cons2 {v : List Nat} (h : 2 ≤ v.length) : ∃ a b t, v = a :: b :: t := by
  cases v with
  | nil => simp at h
  | cons a v => cases v with
    | nil => simp at h
    | cons b t => exact ⟨a, b, t, rfl⟩
theorem u_pr_r0 (hg : u_pg P) {h : Nat} (hp : u_pr P (u_s0 P) h = true) : h < 12 ∧ (u_r0 P).testBit h = true := by
  have hm := (u_pr_mem hp).2
  refine ⟨hg.2.1 h hm, u_r0_bit.mpr ⟨hm, fun q => ?_⟩⟩
  rw [q, u_pr_irr hg.1] at hp
  cases hp
theorem u_xwi_mem (hg : u_pg P) : v ∈ u_xwi L lw P ↔ (u_rp P v ∧ u_la L lw v = true) := by
  have hl := hg.2.2.1
  have e : u_xwi L lw P = u_go L lw P false (2 * P.length - 2 + 1) [u_s0 P] (u_r0 P) none false := by
    rw [show 2 * P.length - 2 + 1 = 2 * P.length - 1 by omega]; rfl
  rw [e, u_go_forced, u_wl_one]
  constructor
  · rintro ⟨h, h1, h2, h3, h4⟩
    obtain ⟨t, t1, t2, t3, t4, t5, t6, t7⟩ := (u_go_a hg h1.2 h2).mp h4
    have hr := u_r0_bit.mp h1.2
    rw [t1] at t7
    have lw' := (u_law (L := L) (lw := lw) (one := false) (s := u_s0 P) (h := h) (t := t)).mp ⟨by show (u_ma lw none (r_x L (u_s0 P) h) && u_xcl L lw (some (r_x L (u_s0 P) h)) h t) = true; rw [t6]; rfl, t7⟩
    rw [t1]
    refine ⟨⟨by simp [t2]; omega, ?_, ?_, rfl, h2, t5⟩, lw'.1⟩
    · refine List.nodup_cons.mpr ⟨fun q => ?_, List.nodup_cons.mpr ⟨fun q => (t4 h q).2.2 rfl, t3⟩⟩
      rcases List.mem_cons.mp q with q | q
      · exact hr.2 q.symm
      · exact (t4 _ q).2.1 rfl
    · intro x hx
      rcases List.mem_cons.mp hx with q | q
      · rw [q]; exact (u_pg_s0 hg).1
      · rcases List.mem_cons.mp q with q | q
        · rw [q]; exact hr.1
        · exact (t4 x q).1
  · rintro ⟨⟨v1, v2, v3, v4, v5⟩, v6⟩
    obtain ⟨s, h, t, rfl⟩ := u_cons2 (v := v) (by omega)
    have es : s = u_s0 P := v4
    subst es
    obtain ⟨n1, n2⟩ := List.nodup_cons.mp v2
    obtain ⟨n3, n4⟩ := List.nodup_cons.mp n2
    have hr := u_pr_r0 hg v5.1
    have lw' := (u_law (L := L) (lw := lw) (one := false) (s := u_s0 P) (h := h) (t := t)).mpr ⟨v6, fun q => by cases q⟩
    refine ⟨h, hr, v5.1, rfl, (u_go_a hg hr.2 v5.1).mpr ⟨t, rfl, by simp at v1; omega, n4, fun x hx => ⟨v3 x (List.mem_cons_of_mem _ (List.mem_cons_of_mem _ hx)), fun q => n1 (q ▸ List.mem_cons_of_mem _ hx), fun q => n3 (q ▸ hx)⟩, v5.2, ?_, lw'.2⟩⟩
    have := lw'.1
    rw [show u_xcl L lw none (u_s0 P) (h :: t) = (u_ma lw none (r_x L (u_s0 P) h) && u_xcl L lw (some (r_x L (u_s0 P) h)) h t) from rfl, Bool.and_eq_true] at this
    exact this.2
/-- a round that begins at the least hole, toward the lesser neighbour, each hole beside its partner -/
def u_gp' (P : List (Nat × Nat)) (v : List Nat) : Prop := v.length = 2 * P.length ∧ v.Nodup ∧ (∀ x ∈ v, x ∈ u_fp P) ∧ v.getD 0 0 = u_s0 P ∧ (u_tq P v ∨ u_tq P v.tail) ∧ v.getD 1 0 < u_wl v
theorem u_gu_mem (hg : u_pg P) : v ∈ u_gu L lw P ↔ (u_gp' P v ∧ u_la L lw v = true) := by
  have hl := hg.2.2.1
  have e : u_gu L lw P = u_go L lw P true (2 * P.length - 2 + 1) [u_s0 P] (u_r0 P) none true := by
    rw [show 2 * P.length - 2 + 1 = 2 * P.length - 1 by omega]; rfl
  have hP : P.length ≠ 0 := by omega
  rw [e, u_go_mem, u_wl_one, decide_eq_false hP]
  constructor
  · rintro ⟨h, h1, -, h3, h4⟩
    have hr := u_r0_bit.mp h1.2
    rw [Bool.false_or] at h4
    cases hpr : u_pr P (u_s0 P) h
    · rw [hpr, show 2 * P.length - 2 = 2 * P.length - 3 + 1 by omega, u_go_forced, u_wl_add] at h4
      obtain ⟨y, y1, y2, y3, y4⟩ := h4
      obtain ⟨t, t1, t2, t3, t4, t5, t6, t7⟩ := (u_go_b hg h1.2 y1.2 y2).mp y4
      have hy := y1.2
      rw [w_rm_bit, Bool.and_eq_true, u_r0_bit, decide_eq_true_iff] at hy
      rw [t1] at t7
      have lw' := (u_law (L := L) (lw := lw) (one := true) (s := u_s0 P) (h := h) (t := y :: t)).mp ⟨by
        show (u_ma lw none (r_x L (u_s0 P) h) && (u_ma lw (some (r_x L (u_s0 P) h)) (r_x L h y) && u_xcl L lw (some (r_x L h y)) y t)) = true
        rw [t6, y3]; rfl, t7⟩
      rw [t1]
      refine ⟨⟨by simp [t2]; omega, ?_, ?_, rfl, Or.inr ⟨y2, t5⟩, lw'.2 rfl⟩, lw'.1⟩
      · refine List.nodup_cons.mpr ⟨fun q => ?_, List.nodup_cons.mpr ⟨fun q => ?_, List.nodup_cons.mpr ⟨fun q => (t4 y q).2.2.2 rfl, t3⟩⟩⟩
        · rcases List.mem_cons.mp q with q | q
          · exact hr.2 q.symm
          · rcases List.mem_cons.mp q with q | q
            · exact hy.1.2 q.symm
            · exact (t4 _ q).2.1 rfl
        · rcases List.mem_cons.mp q with q | q
          · exact hy.2 q.symm
          · exact (t4 _ q).2.2.1 rfl
      · intro x hx
        rcases List.mem_cons.mp hx with q | q
        · rw [q]; exact (u_pg_s0 hg).1
        · rcases List.mem_cons.mp q with q | q
          · rw [q]; exact hr.1
          · rcases List.mem_cons.mp q with q | q
            · rw [q]; exact hy.1.1
            · exact (t4 x q).1
    · rw [hpr] at h4
      obtain ⟨t, t1, t2, t3, t4, t5, t6, t7⟩ := (u_go_a hg h1.2 hpr).mp h4
      rw [t1] at t7
      have lw' := (u_law (L := L) (lw := lw) (one := true) (s := u_s0 P) (h := h) (t := t)).mp ⟨by show (u_ma lw none (r_x L (u_s0 P) h) && u_xcl L lw (some (r_x L (u_s0 P) h)) h t) = true; rw [t6]; rfl, t7⟩
      rw [t1]
      refine ⟨⟨by simp [t2]; omega, ?_, ?_, rfl, Or.inl ⟨hpr, t5⟩, lw'.2 rfl⟩, lw'.1⟩
      · refine List.nodup_cons.mpr ⟨fun q => ?_, List.nodup_cons.mpr ⟨fun q => (t4 h q).2.2 rfl, t3⟩⟩
        rcases List.mem_cons.mp q with q | q
        · exact hr.2 q.symm
        · exact (t4 _ q).2.1 rfl
      · intro x hx
        rcases List.mem_cons.mp hx with q | q
        · rw [q]; exact (u_pg_s0 hg).1
        · rcases List.mem_cons.mp q with q | q
          · rw [q]; exact hr.1
          · exact (t4 x q).1
  · rintro ⟨⟨v1, v2, v3, v4, v5, v7⟩, v6⟩
    obtain ⟨s, h, t, rfl⟩ := u_cons2 (v := v) (by omega)
    have es : s = u_s0 P := v4
    subst es
    obtain ⟨n1, n2⟩ := List.nodup_cons.mp v2
    obtain ⟨n3, n4⟩ := List.nodup_cons.mp n2
    have hm := v3 h (List.mem_cons_of_mem _ List.mem_cons_self)
    have hr : h < 12 ∧ (u_r0 P).testBit h = true := ⟨hg.2.1 h hm, u_r0_bit.mpr ⟨hm, fun q => n1 (q ▸ List.mem_cons_self)⟩⟩
    have lw' := (u_law (L := L) (lw := lw) (one := true) (s := u_s0 P) (h := h) (t := t)).mpr ⟨v6, fun _ => v7⟩
    refine ⟨h, hr, Or.inl rfl, rfl, ?_⟩
    rw [Bool.false_or]
    have lc := lw'.1
    rw [show u_xcl L lw none (u_s0 P) (h :: t) = (u_ma lw none (r_x L (u_s0 P) h) && u_xcl L lw (some (r_x L (u_s0 P) h)) h t) from rfl, Bool.and_eq_true] at lc
    cases hpr : u_pr P (u_s0 P) h
    · rcases v5 with v5 | v5
      · have v51 : u_pr P (u_s0 P) h = true := v5.1
        rw [hpr] at v51
        cases v51
      · obtain ⟨y, t', rfl⟩ : ∃ y t', t = y :: t' := by
          cases t with
          | nil => simp at v1; omega
          | cons y t' => exact ⟨y, t', rfl⟩
        have v5' : u_pr P h y = true ∧ u_tq P t' := v5
        obtain ⟨n5, n6⟩ := List.nodup_cons.mp n4
        have hy : y < 12 ∧ (w_rm (u_r0 P) h).testBit y = true := by
          have ym := v3 y (List.mem_cons_of_mem _ (List.mem_cons_of_mem _ List.mem_cons_self))
          refine ⟨hg.2.1 y ym, ?_⟩
          rw [w_rm_bit, Bool.and_eq_true, u_r0_bit, decide_eq_true_iff]
          exact ⟨⟨ym, fun q => n1 (q ▸ List.mem_cons_of_mem _ List.mem_cons_self)⟩, fun q => n3 (q ▸ List.mem_cons_self)⟩
        have lc2 := lc.2
        rw [show u_xcl L lw (some (r_x L (u_s0 P) h)) h (y :: t') = (u_ma lw (some (r_x L (u_s0 P) h)) (r_x L h y) && u_xcl L lw (some (r_x L h y)) y t') from rfl, Bool.and_eq_true] at lc2
        rw [show 2 * P.length - 2 = 2 * P.length - 3 + 1 by omega, u_go_forced, u_wl_add]
        exact ⟨y, hy, v5'.1, lc2.1, (u_go_b hg hr.2 hy.2 v5'.1).mpr ⟨t', rfl, by simp at v1; omega, n6, fun x hx => ⟨v3 x (List.mem_cons_of_mem _ (List.mem_cons_of_mem _ (List.mem_cons_of_mem _ hx))), fun q => n1 (q ▸ List.mem_cons_of_mem _ (List.mem_cons_of_mem _ hx)), fun q => n3 (q ▸ List.mem_cons_of_mem _ hx), fun q => n5 (q ▸ hx)⟩, v5'.2, lc2.2, lw'.2⟩⟩
    · have ht : u_tq P t := by
        rcases v5 with v5 | v5
        · exact v5.2
        · exfalso
          obtain ⟨y, t', rfl⟩ : ∃ y t', t = y :: t' := by
            cases t with
            | nil => simp at v1; omega
            | cons y t' => exact ⟨y, t', rfl⟩
          have v5' : u_pr P h y = true ∧ u_tq P t' := v5
          have e := u_pr_uniq hg.1 (u_pr_comm ▸ hpr) v5'.1
          exact n1 (e ▸ List.mem_cons_of_mem _ List.mem_cons_self)
      exact (u_go_a hg hr.2 hpr).mpr ⟨t, rfl, by simp at v1; omega, n4, fun x hx => ⟨v3 x (List.mem_cons_of_mem _ (List.mem_cons_of_mem _ hx)), fun q => n1 (q ▸ List.mem_cons_of_mem _ hx), fun q => n3 (q ▸ hx)⟩, ht, lc.2, lw'.2⟩
end Mem
