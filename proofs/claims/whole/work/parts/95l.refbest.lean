/-! ===== the reference's best ways of going on ===== -/
noncomputable def m_fk (A B what : Nat) (g : Nat → Int) : Nat → Nat → Nat × Int → Nat × Int
  | 0, _, a => a
  | n + 1, j, a => m_fk A B what g n (j + 1) (if m_tk A B what (g j) a.2 then (j, g j) else a)
def m_sp (w : Int) (c : Nat) : Int := if w = -1 then -1 else w + c
noncomputable def m_bv (A B L lw what s : Nat) : Nat → Nat → Bool → Nat → Bool → Int
  | 0, last, i, _, f => if r_may lw i (r_x L last s) = true ∧ r_may lw (r_x L last s) f = true then (r_code L A B last s : Int) else -1
  | n + 1, last, i, rest, f => (m_fk A B what (fun h => if rest.testBit h = true ∧ r_may lw i (r_x L last h) = true then m_sp (m_bv A B L lw what s n h (r_x L last h) (w_rm rest h) f) (r_code L A B last h) else -1) 12 0 (0, -1)).2
/-- by a next hole -/
noncomputable def m_bb (A B L lw what s n last : Nat) (i : Bool) (rest : Nat) (f : Bool) (h : Nat) : Int := if rest.testBit h = true ∧ r_may lw i (r_x L last h) = true then m_sp (m_bv A B L lw what s n h (r_x L last h) (w_rm rest h) f) (r_code L A B last h) else -1
theorem m_bv_succ {A B L lw what s n last : Nat} {i : Bool} {rest : Nat} {f : Bool} : m_bv A B L lw what s (n + 1) last i rest f = (m_fk A B what (m_bb A B L lw what s n last i rest f) 12 0 (0, -1)).2 := rfl
theorem m_tk_1 {A B what : Nat} {v : Int} : m_tk A B what (-1) v = false := by unfold m_tk; simp
section Rf
variable {A B L R lw what s : Nat}
/-- what a pick has seen -/
theorem m_fk_rf {g : Nat → Int} {P : Nat → List (Nat × Nat) → Prop} (hb : m_B L R A B) (hw : what ≤ 2) (hP : ∀ h E, P h E → m_E L R E) (hg : ∀ h, m_rf what L A B (g h) (P h)) : ∀ (n j : Nat) (a : Nat × Int), m_rf what L A B a.2 (fun E => ∃ h, h < j ∧ P h E) → m_rf what L A B (m_fk A B what g n j a).2 (fun E => ∃ h, h < j + n ∧ P h E) := by
  intro n
  induction n with
  | zero => intro j a h; exact h
  | succ n ih =>
    intro j a h
    rw [m_fk, show j + (n + 1) = j + 1 + n by omega]
    refine ih (j + 1) _ ?_
    have c := m_rf_or hb hw (fun E q => by obtain ⟨h, _, q⟩ := q; exact hP h E q) (hP j) h (hg j)
    have e : (if m_tk A B what (g j) a.2 then (j, g j) else a).2 = if m_tk A B what (g j) a.2 then g j else a.2 := by split <;> rfl
    rw [e]
    refine m_rf_congr c (fun E => ?_)
    constructor
    · rintro (⟨h, h1, h2⟩ | h2)
      · exact ⟨h, by omega, h2⟩
      · exact ⟨j, by omega, h2⟩
    · rintro ⟨h, h1, h2⟩
      by_cases q : h = j
      · subst q; exact Or.inr h2
      · exact Or.inl ⟨h, by omega, h2⟩
theorem m_sp_rf {w : Int} {P : List (Nat × Nat) → Prop} {a b : Nat} (h : m_rf what L A B w P) : m_rf what L A B (m_sp w (r_code L A B a b)) (fun E => ∃ E', P E' ∧ E = w_e a b :: E') := m_rf_cons h
/-- the reference's numbers stand for ways none is better than -/
theorem m_bv_rf (hb : m_B L R A B) (hw : what ≤ 2) (hs : s < L + R) : ∀ (n last : Nat) (i : Bool) (rest : Nat) (f : Bool), n ≤ 12 → last < L + R → last ≠ s → rest.testBit last = false → rest.testBit s = false → (∀ x, rest.testBit x = true → x < L + R) → m_rf what L A B (m_bv A B L lw what s n last i rest f) (m_h lw (r_x L) s n last i rest f) := by
  intro n
  induction n with
  | zero =>
    intro last i rest f hn hl hls h1 h2 h3
    rw [m_bv]
    by_cases c : r_may lw i (r_x L last s) = true ∧ r_may lw (r_x L last s) f = true
    · rw [if_pos c]
      refine Or.inr ⟨[w_e last s], ⟨c.1, c.2, rfl⟩, by rw [w_code_cons]; rfl, ?_⟩
      rintro F ⟨_, _, rfl⟩; omega
    · rw [if_neg c]
      exact m_rf_none fun E q => c ⟨q.1, q.2.1⟩
  | succ n ih =>
    intro last i rest f hn hl hls h1 h2 h3
    rw [m_bv_succ]
    have ok : ∀ h, rest.testBit h = true → h < L + R ∧ h ≠ s ∧ h ≠ last := fun h hh => ⟨h3 h hh, fun e => (by rw [e, h2] at hh; cases hh), fun e => (by rw [e, h1] at hh; cases hh)⟩
    have ok2 : ∀ h, (w_rm rest h).testBit h = false ∧ (w_rm rest h).testBit s = false ∧ ∀ x, (w_rm rest h).testBit x = true → x < L + R := fun h => ⟨by rw [w_rm_bit]; simp, by rw [w_rm_bit, h2]; rfl, fun x hx => h3 x (by rw [w_rm_bit, Bool.and_eq_true] at hx; exact hx.1)⟩
    have key := m_fk_rf (g := m_bb A B L lw what s n last i rest f) (P := fun h E => rest.testBit h = true ∧ r_may lw i (r_x L last h) = true ∧ ∃ E', m_h lw (r_x L) s n h (r_x L last h) (w_rm rest h) f E' ∧ E = w_e last h :: E') hb hw (fun h E q => by
      obtain ⟨q1, q2, E', q3, rfl⟩ := q
      have := m_h_ok hs (n + 1) last i rest f (w_e last h :: E') hl hls h1 h2 h3 ⟨h, E', q1, q2, q3, rfl⟩
      exact ⟨⟨this.1, this.2.1⟩, by rw [this.2.2.1]; omega⟩) (fun h => by
      unfold m_bb
      by_cases c : rest.testBit h = true ∧ r_may lw i (r_x L last h) = true
      · rw [if_pos c]
        obtain ⟨o1, o2, o3⟩ := ok h c.1
        obtain ⟨p1, p2, p3⟩ := ok2 h
        have := m_sp_rf (a := last) (b := h) (ih h (r_x L last h) (w_rm rest h) f (by omega) o1 o2 p1 p2 p3)
        refine m_rf_congr this (fun E => ?_)
        constructor
        · rintro ⟨E', q1, q2⟩; exact ⟨c.1, c.2, E', q1, q2⟩
        · rintro ⟨_, _, E', q1, q2⟩; exact ⟨E', q1, q2⟩
      · rw [if_neg c]
        exact m_rf_none fun E q => c ⟨q.1, q.2.1⟩) 12 0 (0, -1) (m_rf_none (fun E q => by obtain ⟨h, q, _⟩ := q; exact absurd q (Nat.not_lt_zero _)))
    refine m_rf_congr key (fun E => ?_)
    constructor
    · rintro ⟨h, _, q1, q2, E', q3, q4⟩; exact ⟨h, E', q1, q2, q3, q4⟩
    · rintro ⟨h, E', q1, q2, q3, q4⟩
      exact ⟨h, by have := h3 h q1; have := hb.1; have := hb.2.1; omega, q1, q2, E', q3, q4⟩
/-- a pick over holes is a pick over their places -/
def m_Rr (S : Nat) (a b : Nat × Int) : Prop := a.2 = b.2 ∧ (a.2 ≠ -1 → a.1 = r_hs S b.1 ∧ b.1 < n_pop S ∧ 1 ≤ b.1)
theorem m_fk_ix {S : Nat} {G : Nat → Int} (hG : ∀ h, S.testBit h ≠ true → G h = -1) (hlow : G (r_hs S 0) = -1) : ∀ (n N : Nat) (a b : Nat × Int), N + n = 12 → m_Rr S a b → m_Rr S (m_fk A B what G n N a) (m_fk A B what (fun j => G (r_hs S j)) (n_pop S - r_ix S N) (r_ix S N) b) := by
  intro n
  induction n with
  | zero =>
    intro N a b hN h
    have : N = 12 := by omega
    subst this
    rw [r_ix_12, Nat.sub_self]
    exact h
  | succ n ih =>
    intro N a b hN h
    have hx := r_ix_succ S N
    rw [m_fk]
    by_cases q : S.testBit N = true
    · rw [if_pos q] at hx
      have hlt := r_ix_lt q (show N < 12 by omega)
      rw [r_ix_12] at hlt
      have e : n_pop S - r_ix S N = (n_pop S - r_ix S (N + 1)) + 1 := by omega
      have hh := r_hs_ix q (show N < 12 by omega)
      rw [e, m_fk]
      try dsimp only
      rw [hh, ← hx, ← h.1]
      refine ih (N + 1) _ _ (by omega) ?_
      cases c : m_tk A B what (G N) a.2
      · simp only [Bool.false_eq_true, reduceIte]; exact h
      · simp only [reduceIte]
        refine ⟨rfl, fun _ => ⟨hh.symm, hlt, ?_⟩⟩
        rcases Nat.eq_zero_or_pos (r_ix S N) with z | z
        · rw [← hh, z, hlow, m_tk_1] at c; cases c
        · exact z
    · rw [if_neg q] at hx
      have hx : r_ix S (N + 1) = r_ix S N := by omega
      rw [hG N q, m_tk_1, if_neg (by decide), ← hx]
      exact ih (N + 1) a b (by omega) h
theorem m_fk_ix1 {S been : Nat} {G : Nat → Int} (hS : S < 4096) (hk : 0 < n_pop S) (hG : ∀ h, (r_rest S been).testBit h ≠ true → G h = -1) : m_Rr S (m_fk A B what G 12 0 (0, -1)) (m_fk A B what (fun j => G (r_hs S j)) (n_pop S - 1) 1 (0, -1)) := by
  have hlow : G (r_hs S 0) = -1 := hG _ fun r => by
    have := ((r_rest_bit hS).mp r).2.1
    rw [(r_hs_B hk).2.2] at this
    omega
  have a := m_fk_ix (A := A) (B := B) (what := what) (S := S) (G := G) (fun h q => hG h fun r => q ((r_rest_bit hS).mp r).1) hlow 12 0 (0, -1) (0, -1) rfl ⟨rfl, fun q => absurd rfl q⟩
  have e0 : r_ix S 0 = 0 := rfl
  obtain ⟨k, hke⟩ : ∃ k, n_pop S = k + 1 := ⟨n_pop S - 1, by omega⟩
  rw [e0, Nat.sub_zero] at a
  have e : m_fk A B what (fun j => G (r_hs S j)) (n_pop S) 0 (0, -1) = m_fk A B what (fun j => G (r_hs S j)) (n_pop S - 1) 1 (0, -1) := by
    rw [hke, m_fk, Nat.add_sub_cancel]
    try dsimp only
    rw [hlow, m_tk_1, if_neg (by decide)]
  rw [e] at a
  exact a
end Rf
