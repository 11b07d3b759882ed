/-! ===== the class's finder: cells of a set ===== -/
theorem w_rm_comm (s a b : Nat) : w_rm (w_rm s a) b = w_rm (w_rm s b) a := by
  refine Nat.eq_of_testBit_eq fun i => ?_
  rw [w_rm_bit, w_rm_bit, w_rm_bit, w_rm_bit, Bool.and_assoc, Bool.and_assoc, Bool.and_comm (decide _) (decide _)]
theorem n_low_rm {s h : Nat} (hs : s < 4096) (hb : s.testBit h = true) (hl : h ≠ n_low s) : n_low (w_rm s h) = n_low s := by
  have h0 : 0 < s := by
    rcases Nat.eq_zero_or_pos s with q | q
    · rw [q] at hb; simp at hb
    · exact q
  have a := w_low hs h0
  have hr : w_rm s h < 4096 := Nat.lt_of_le_of_lt (w_rm_le _ _) hs
  have hb2 : (w_rm s h).testBit (n_low s) = true := by rw [w_rm_bit, a.2.2.1, decide_eq_true (show n_low s ≠ h from fun e => hl e.symm)]; rfl
  have h0' : 0 < w_rm s h := by
    rcases Nat.eq_zero_or_pos (w_rm s h) with q | q
    · rw [q] at hb2; simp at hb2
    · exact q
  have c := w_low hr h0'
  have c3 := c.2.2.1
  rw [w_rm_bit, Bool.and_eq_true] at c3
  rcases Nat.lt_trichotomy (n_low (w_rm s h)) (n_low s) with q | q | q
  · rw [a.2.2.2 _ c.2.1 q] at c3; exact absurd c3.1 (by decide)
  · exact q
  · rw [c.2.2.2 _ a.2.1 q] at hb2; cases hb2
theorem n_pop_p2 : ∀ s, s < 12 → n_pop (2 ^ s) = 1 := by decide
theorem m_c_ok {lw : Nat} {kd : Nat → Nat → Bool} (hk : ∀ a b, kd a b = kd b a) {s n f hole rest : Nat} {o h : Bool} {E : List (Nat × Nat)} (hs : s < n) (hl : hole < n) (hls : hole ≠ s) (hr1 : rest.testBit hole = false) (hr2 : rest.testBit s = false) (hn : ∀ x, rest.testBit x = true → x < n) (g : m_c lw kd s f hole rest o h E) : E.Nodup ∧ (∀ e ∈ E, e.1 < e.2 ∧ e.2 < n) ∧ E.length = f + 1 := by
  have e1 : ∀ o, r_may lw (!o) o = true := by intro o; unfold r_may; split <;> cases o <;> rfl
  have e2 : ∀ o, r_may lw o (!o) = true := by intro o; unfold r_may; split <;> cases o <;> rfl
  have := m_h_ok hs f hole (!o) rest (!h) E hl hls hr1 hr2 hn ((m_hc hk f hole (!o) rest (!h) E).mpr ⟨o, h, e1 o, e2 h, g⟩)
  exact ⟨this.1, this.2.1, this.2.2.1⟩
def m_rs (set hole : Nat) : Nat := w_rm (w_rm set (n_low set)) hole
def m_ix (set hole : Nat) (o h : Bool) : Nat := (set * 12 + hole) * 4 + 2 * o.toNat + h.toNat
def m_ce (m : y_m) (what L R A B lw set : Nat) : Prop := ∀ hole, hole < 12 → set.testBit hole = true → hole ≠ n_low set → ∀ o h, m_is (y_mJ m 9 (m_ix set hole o h)) (m_P what L A B (m_c lw (m_kd lw L) (n_low set) (n_pop set - 2) hole (m_rs set hole) o h))
def m_cl (lw : Nat) (kd : Nat → Nat → Bool) (s f hole rest : Nat) (o h : Bool) (l : Nat) (E : List (Nat × Nat)) : Prop := ∃ last i E', last < l ∧ rest.testBit last = true ∧ kd last hole = o ∧ r_may lw i o = true ∧ m_c lw kd s f last (w_rm rest last) i h E' ∧ E = w_e last hole :: E'
theorem m_cl_0 {lw s f hole rest : Nat} {kd : Nat → Nat → Bool} {o h : Bool} {E : List (Nat × Nat)} : ¬ m_cl lw kd s f hole rest o h 0 E := by
  rintro ⟨last, i, E', h1, _⟩; exact absurd h1 (Nat.not_lt_zero _)
theorem m_cl_12 {lw s f hole rest : Nat} {kd : Nat → Nat → Bool} {o h : Bool} {E : List (Nat × Nat)} (hr : ∀ x, rest.testBit x = true → x < 12) : m_cl lw kd s f hole rest o h 12 E ↔ m_c lw kd s (f + 1) hole rest o h E := by
  constructor
  · rintro ⟨last, i, E', _, h⟩; exact ⟨last, i, E', h⟩
  · rintro ⟨last, i, E', h1, h⟩; exact ⟨last, i, E', hr _ h1, h1, h⟩
theorem m_cl_no {lw s f hole rest l : Nat} {kd : Nat → Nat → Bool} {o h : Bool} {E : List (Nat × Nat)} (hb : rest.testBit l = false ∨ kd l hole ≠ o) : m_cl lw kd s f hole rest o h (l + 1) E ↔ m_cl lw kd s f hole rest o h l E := by
  constructor
  · rintro ⟨last, i, E', h1, h2, h3, h4⟩
    refine ⟨last, i, E', ?_, h2, h3, h4⟩
    rcases Nat.lt_or_ge last l with q | q
    · exact q
    · have : last = l := by omega
      subst this
      rcases hb with r | r
      · rw [h2] at r; cases r
      · exact absurd h3 r
  · rintro ⟨last, i, E', h1, h⟩; exact ⟨last, i, E', by omega, h⟩
theorem m_cl_yes {lw s f hole rest l : Nat} {kd : Nat → Nat → Bool} {h : Bool} {E : List (Nat × Nat)} (hb : rest.testBit l = true) : m_cl lw kd s f hole rest (kd l hole) h (l + 1) E ↔ (m_cl lw kd s f hole rest (kd l hole) h l E ∨ (r_may lw false (kd l hole) = true ∧ ∃ E', m_c lw kd s f l (w_rm rest l) false h E' ∧ E = w_e l hole :: E')) ∨ (r_may lw true (kd l hole) = true ∧ ∃ E', m_c lw kd s f l (w_rm rest l) true h E' ∧ E = w_e l hole :: E') := by
  constructor
  · rintro ⟨last, i, E', h1, h2, h3, h4, h5, h6⟩
    rcases Nat.lt_or_ge last l with q | q
    · exact Or.inl (Or.inl ⟨last, i, E', q, h2, h3, h4, h5, h6⟩)
    · have : last = l := by omega
      subst this
      cases i
      · exact Or.inl (Or.inr ⟨h4, E', h5, h6⟩)
      · exact Or.inr ⟨h4, E', h5, h6⟩
  · rintro ((⟨last, i, E', h1, h⟩ | ⟨h4, E', h5, h6⟩) | ⟨h4, E', h5, h6⟩)
    · exact ⟨last, i, E', by omega, h⟩
    · exact ⟨l, false, E', by omega, hb, rfl, h4, h5, h6⟩
    · exact ⟨l, true, E', by omega, hb, rfl, h4, h5, h6⟩
/-- where there is no law, spans are of one kind alone -/
theorem m_c_k0 {s L : Nat} : ∀ (f hole rest : Nat) (o h : Bool) (E : List (Nat × Nat)), m_c 0 (m_kd 0 L) s f hole rest o h E → o = false ∧ h = false
  | 0, hole, rest, o, h, E, g => ⟨g.1.symm, g.2.1.symm⟩
  | f + 1, hole, rest, o, h, E, g => by
    obtain ⟨last, i, E', g1, g2, g3, g4, g5⟩ := g
    exact ⟨g2.symm, (m_c_k0 f last _ i h E' g4).2⟩
theorem m_is_bd {P : List (Nat × Nat) → Prop} {what L R A B : Nat} {v : Int} (hb : m_B L R A B) (hl : ∀ E, P E → (∀ e ∈ E, e.1 < L + R ∧ e.2 < L + R) ∧ E.length ≤ 12) (g : m_is v (m_P what L A B P)) : m_bd v := by
  rcases g with ⟨g1, g2⟩ | ⟨⟨E, g1, g2⟩, g3, g4⟩
  · exact Or.inl g1
  · have b2 := m_S_b (what := what) hb (hl E g1).1
    have b3 := (hl E g1).2
    have b4 : 288230376151800000 * (E.length : Int) ≤ 288230376151800000 * 12 := by omega
    exact Or.inr (by omega)
/-- one row of the four, as least numbers -/
theorem m_up_is {m : y_m} {fr to : Nat} {c : Int} {P Q : Int → Prop} (h1 : m_is (y_mJ m 9 to) P) (h2 : m_is (m_ad (y_mJ m 9 fr) c) Q) : m_is (y_mJ (m_up m fr to c) 9 to) (fun x => P x ∨ Q x) := by
  have hle : y_mJ m 9 to ≤ m_F := by
    rcases h1 with ⟨q, _⟩ | ⟨_, q, _⟩ <;> omega
  rw [m_up_to hle]
  exact m_is_or h1 h2
theorem m_up2_is {m : y_m} {i : Bool} {fr to : Nat} {c : Int} {P Q : Bool → Int → Prop} (hdis : to + 1 < fr ∨ fr + 3 < to) (h1 : ∀ h : Bool, m_is (y_mJ m 9 (to + h.toNat)) (P h)) (h2 : ∀ h : Bool, m_is (m_ad (y_mJ m 9 (fr + 2 * i.toNat + h.toNat)) c) (Q h)) : ∀ h : Bool, m_is (y_mJ (m_up2 m false fr to i c) 9 (to + h.toNat)) (fun x => P h x ∨ Q h x) := by
  have hi1 : 2 * i.toNat + 1 < 4 := by cases i <;> decide
  have F1 := @m_up_F m (fr + 2 * i.toNat + 0) (to + 0) c
  have F2 := @m_up_F (m_up m (fr + 2 * i.toNat + 0) (to + 0) c) (fr + 2 * i.toNat + 1) (to + 1) c
  intro h
  unfold m_up2
  simp only [Bool.false_eq_true, reduceIte]
  cases h
  · show m_is (y_mJ _ 9 (to + 0)) _
    rw [q_F_J F2 9 _ (by show ¬ (9 = 9 ∧ to + 0 = to + 1); omega)]
    exact m_up_is (h1 false) (h2 false)
  · show m_is (y_mJ _ 9 (to + 1)) _
    refine m_up_is ?_ ?_
    · rw [q_F_J F1 9 _ (by show ¬ (9 = 9 ∧ to + 1 = to + 0); omega)]; exact h1 true
    · rw [q_F_J F1 9 _ (by show ¬ (9 = 9 ∧ fr + 2 * i.toNat + 1 = to + 0); omega)]; exact h2 true
theorem m_P_or {what L A B : Nat} {P Q : List (Nat × Nat) → Prop} {x : Int} : m_P what L A B (fun E => P E ∨ Q E) x ↔ (m_P what L A B P x ∨ m_P what L A B Q x) := by
  constructor
  · rintro ⟨E, q | q, e⟩
    · exact Or.inl ⟨E, q, e⟩
    · exact Or.inr ⟨E, q, e⟩
  · rintro (⟨E, q, e⟩ | ⟨E, q, e⟩)
    · exact ⟨E, Or.inl q, e⟩
    · exact ⟨E, Or.inr q, e⟩
theorem m_P_congr {what L A B : Nat} {P Q : List (Nat × Nat) → Prop} (h : ∀ E, P E ↔ Q E) {x : Int} : m_P what L A B P x ↔ m_P what L A B Q x := by
  constructor
  · rintro ⟨E, q, e⟩; exact ⟨E, (h E).mp q, e⟩
  · rintro ⟨E, q, e⟩; exact ⟨E, (h E).mpr q, e⟩
theorem m_up4_is {m : y_m} {lw s f hole rest l fr to : Nat} {what L R A B : Nat} (hb : m_B L R A B) (hl12 : l < L + R) (hh12 : hole < L + R) (hdis : to + 3 < fr ∨ fr + 3 < to) (hbit : rest.testBit l = true) (hE : ∀ i h E, m_c lw (m_kd lw L) s f l (w_rm rest l) i h E → (∀ e ∈ E, e.1 < L + R ∧ e.2 < L + R) ∧ E.length ≤ 12) (h1 : ∀ i h : Bool, m_is (y_mJ m 9 (fr + 2 * i.toNat + h.toNat)) (m_P what L A B (m_c lw (m_kd lw L) s f l (w_rm rest l) i h))) (h2 : ∀ o h : Bool, m_is (y_mJ m 9 (to + 2 * o.toNat + h.toNat)) (m_P what L A B (m_cl lw (m_kd lw L) s f hole rest o h l))) : ∀ o h : Bool, m_is (y_mJ (m_up4 m lw fr (to + 2 * (m_kd lw L l hole).toNat) (m_kd lw L l hole) (m_w what L A B (w_e l hole))) 9 (to + 2 * o.toNat + h.toNat)) (m_P what L A B (m_cl lw (m_kd lw L) s f hole rest o h (l + 1))) := by
  intro o h
  have F := @m_up4_F m lw fr (to + 2 * (m_kd lw L l hole).toNat) (m_kd lw L l hole) (m_w what L A B (w_e l hole))
  have h3 : ∀ i h : Bool, m_is (m_ad (y_mJ m 9 (fr + 2 * i.toNat + h.toNat)) (m_w what L A B (w_e l hole))) (m_P what L A B (fun E => ∃ E', m_c lw (m_kd lw L) s f l (w_rm rest l) i h E' ∧ E = w_e l hole :: E')) := fun i h => m_is_ad hb ⟨hl12, hh12⟩ (hE i h) (h1 i h)
  by_cases ho : m_kd lw L l hole = o
  · have hcell : ∀ h : Bool, m_is (y_mJ m 9 (to + 2 * (m_kd lw L l hole).toNat + h.toNat)) (m_P what L A B (m_cl lw (m_kd lw L) s f hole rest (m_kd lw L l hole) h l)) := fun h => h2 _ h
    subst ho
    have e : ∀ E, m_cl lw (m_kd lw L) s f hole rest (m_kd lw L l hole) h (l + 1) E ↔ _ := fun E => m_cl_yes hbit
    refine m_is_congr ?_ (fun x => (m_P_congr e).symm)
    generalize hk : m_kd lw L l hole = k at *
    have hk2 : 2 * k.toNat ≤ 2 := by cases k <;> decide
    by_cases c0 : lw = 0
    · subst c0
      have z1 : ∀ i h E, (i = true ∨ h = true) → ¬ m_c 0 (m_kd 0 L) s f l (w_rm rest l) i h E := fun i h E q g => by
        have := m_c_k0 f l _ i h E g
        rcases q with q | q
        · rw [this.1] at q; cases q
        · rw [this.2] at q; cases q
      unfold m_up4 m_up2
      rw [if_pos rfl]
      simp only [reduceIte]
      cases h
      · have a := m_up_is (m := m) (fr := fr + 2 * false.toNat + 0) (to := to + 2 * k.toNat + 0) (hcell false) (h3 false false)
        refine m_is_congr a (fun x => ?_)
        constructor
        · rintro (⟨E, q, e⟩ | ⟨E, q, e⟩)
          · exact ⟨E, Or.inl (Or.inl q), e⟩
          · exact ⟨E, Or.inl (Or.inr ⟨rfl, q⟩), e⟩
        · rintro ⟨E, (q | ⟨_, q⟩) | ⟨_, E', q, _⟩, e⟩
          · exact Or.inl ⟨E, q, e⟩
          · exact Or.inr ⟨E, q, e⟩
          · exact absurd q (z1 true false E' (Or.inl rfl))
      · rw [q_F_J (@m_up_F m (fr + 2 * false.toNat + 0) (to + 2 * k.toNat + 0) _) 9 _ (by show ¬ (9 = 9 ∧ to + 2 * k.toNat + 1 = to + 2 * k.toNat + 0); omega)]
        refine m_is_congr (hcell true) (fun x => ?_)
        constructor
        · rintro ⟨E, q, e⟩; exact ⟨E, Or.inl (Or.inl q), e⟩
        · rintro ⟨E, (q | ⟨_, E', q, _⟩) | ⟨_, E', q, _⟩, e⟩
          · exact ⟨E, q, e⟩
          · exact absurd q (z1 false true E' (Or.inr rfl))
          · exact absurd q (z1 true true E' (Or.inl rfl))
    · unfold m_up4
      rw [if_neg c0]
      have F1 := @m_up2_F m false false fr (to + 2 * k.toNat) (m_w what L A B (w_e l hole))
      have A1 := m_up2_is (m := m) (i := false) (fr := fr) (to := to + 2 * k.toNat) (c := m_w what L A B (w_e l hole)) (by omega) hcell (fun h => h3 false h)
      have A2 := m_up2_is (m := m) (i := true) (fr := fr) (to := to + 2 * k.toNat) (c := m_w what L A B (w_e l hole)) (by omega) hcell (fun h => h3 true h)
      have A3 := m_up2_is (m := m_up2 m false fr (to + 2 * k.toNat) false (m_w what L A B (w_e l hole))) (i := true) (fr := fr) (to := to + 2 * k.toNat) (c := m_w what L A B (w_e l hole)) (by omega) A1 (fun h => by
        rw [q_F_J F1 9 _ (by have := (show (true : Bool).toNat = 1 from rfl); have : h.toNat ≤ 1 := by cases h <;> decide
                             omega)]
        exact h3 true h)
      cases r1 : r_may lw false k <;> cases r2 : r_may lw true k
      · simp only [Bool.false_eq_true, reduceIte, false_and, or_false]
        exact hcell h
      · simp only [Bool.false_eq_true, reduceIte, false_and, or_false, true_and]
        exact m_is_congr (A2 h) (fun x => (m_P_or).symm)
      · simp only [Bool.false_eq_true, reduceIte, false_and, or_false, true_and]
        exact m_is_congr (A1 h) (fun x => (m_P_or).symm)
      · simp only [reduceIte, true_and]
        refine m_is_congr (A3 h) (fun x => ?_)
        rw [m_P_or, m_P_or]
  · have hne : ∀ o k : Bool, k ≠ o → ∀ h : Bool, ¬ (9 = 9 ∧ (to + 2 * o.toNat + h.toNat = to + 2 * k.toNat ∨ to + 2 * o.toNat + h.toNat = to + 2 * k.toNat + 1)) := by
      intro o k hq h
      cases o <;> cases k <;> cases h <;> simp at hq ⊢ <;> omega
    rw [q_F_J F 9 _ (hne o _ ho h)]
    exact m_is_congr (h2 o h) (fun x => (m_P_congr (fun E => m_cl_no (Or.inr ho))).symm)
