/-! ===== the five words, as the reference reads them ===== -/
def u_wo (f : Nat → Int) (p1 : Nat) : Nat → Int
  | 0 => 0
  | k + 1 => 27 * u_wo f p1 k + f (p1 + k) - 96
def u_po (f : Nat → Int) (p1 p2 : Nat) : Int := if p2 - p1 ≤ 6 then u_wo f p1 (p2 - p1) else -1
def u_K (k : Nat) : Int := match k with
  | 0 => 365869
  | 1 => 847604
  | 2 => 405095
  | 3 => 8798
  | _ => 237011
section Words
variable {f : Nat → Int} {n p p1 p2 : Nat} {P : Int → Bool}
theorem u_sc_all (hp : P (-1) = false) : ∀ (k p : Nat), p + k = n → ∀ i, p ≤ i → i < u_sc P f n p → i < n ∧ P (u_c f n i) = true := by
  intro k
  induction k with
  | zero =>
    intro p h i h1 h2
    have := (u_sc_b (P := P) (f := f) (n := n) (p := p) (by omega)).2
    omega
  | succ k ih =>
    intro p h i h1 h2
    cases c : P (u_c f n p)
    · rw [u_sc_no c] at h2; omega
    · obtain ⟨a, b⟩ := u_sc_yes hp c
      by_cases q : i = p
      · subst q; exact ⟨a, c⟩
      · exact ih (p + 1) (by omega) i (by omega) (by rw [← b]; exact h2)
theorem u_sc_le (h : p ≤ n) {i : Nat} (h1 : p ≤ i) (h2 : i < u_sc u_le f n p) : i < n ∧ 97 ≤ f i ∧ f i ≤ 122 := by
  obtain ⟨a, b⟩ := u_sc_all (P := u_le) (f := f) (n := n) rfl (n - p) p (by omega) i h1 h2
  have := of_decide_eq_true b
  unfold u_c at this
  rw [if_pos a] at this
  exact ⟨a, this⟩
theorem u_ie_iff {k : Nat} : ∀ (c j : Nat), (u_ie f p1 k c j = true) ↔ ∀ i, j ≤ i → i < j + c → f (p1 + i) = (u_wd k).getD i 0
  | 0, j => ⟨fun _ i h1 h2 => by omega, fun _ => rfl⟩
  | c + 1, j => by
    rw [u_ie, Bool.and_eq_true, decide_eq_true_iff, u_ie_iff c (j + 1)]
    constructor
    · intro h i h1 h2
      by_cases q : i = j
      · rw [q]; exact h.1
      · exact h.2 i (by omega) (by omega)
    · intro h
      exact ⟨h j (by omega) (by omega), fun i h1 h2 => h i (by omega) (by omega)⟩
theorem u_is_iff {k : Nat} : (u_is f p1 p2 k = true) ↔ (p2 - p1 = (u_wd k).length ∧ ∀ i, i < (u_wd k).length → f (p1 + i) = (u_wd k).getD i 0) := by
  unfold u_is
  rw [Bool.and_eq_true, decide_eq_true_iff, u_ie_iff]
  constructor
  · intro h; exact ⟨h.1, fun i hi => h.2 i (by omega) (by omega)⟩
  · intro h; exact ⟨h.1, fun i _ hi => h.2 i (by omega)⟩
/-- the value of a short word is its letters -/
theorem u_is_po {k : Nat} (hk : k < 5) (hl : ∀ i, p1 ≤ i → i < p2 → 97 ≤ f i ∧ f i ≤ 122) : (u_is f p1 p2 k = true) ↔ u_po f p1 p2 = u_K k := by
  rw [u_is_iff]
  unfold u_po
  have l : ∀ i, i < p2 - p1 → 97 ≤ f (p1 + i) ∧ f (p1 + i) ≤ 122 := fun i hi => hl _ (by omega) (by omega)
  by_cases h6 : p2 - p1 ≤ 6
  · rw [if_pos h6]
    have h0 := l 0
    have h1 := l 1
    have h2 := l 2
    have h3 := l 3
    have h4 := l 4
    have h5 := l 5
    rcases (show k = 0 ∨ k = 1 ∨ k = 2 ∨ k = 3 ∨ k = 4 by omega) with rfl | rfl | rfl | rfl | rfl
    all_goals
      generalize p2 - p1 = L at *
      rcases (show L = 0 ∨ L = 1 ∨ L = 2 ∨ L = 3 ∨ L = 4 ∨ L = 5 ∨ L = 6 by omega) with rfl | rfl | rfl | rfl | rfl | rfl | rfl
    all_goals
      simp only [u_wo, u_K, u_wd, List.length_cons, List.length_nil]
      constructor
      · intro h
        have g0 := h.2 0
        have g1 := h.2 1
        have g2 := h.2 2
        have g3 := h.2 3
        have g4 := h.2 4
        simp only [List.getD_cons_zero, List.getD_cons_succ] at g0 g1 g2 g3 g4
        omega
      · intro h
        first
          | omega
          | (refine ⟨(by first | trivial | omega), fun i hi => ?_⟩
             rcases (show i = 0 ∨ i = 1 ∨ i = 2 ∨ i = 3 ∨ i = 4 by omega) with rfl | rfl | rfl | rfl | rfl
             all_goals first
               | omega
               | (simp only [List.getD_cons_zero, List.getD_cons_succ]; omega))
  · rw [if_neg h6]
    have wl := (u_wd_b k hk).1
    have hK : u_K k ≠ -1 := by
      rcases (show k = 0 ∨ k = 1 ∨ k = 2 ∨ k = 3 ∨ k = 4 by omega) with rfl | rfl | rfl | rfl | rfl <;> decide
    constructor
    · intro h; omega
    · intro h; exact absurd h.symm hK
theorem u_wo_b (hl : ∀ i, p1 ≤ i → i < p2 → 97 ≤ f i ∧ f i ≤ 122) : -1 ≤ u_po f p1 p2 ∧ u_po f p1 p2 ≤ 387420489 := by
  unfold u_po
  have l : ∀ i, i < p2 - p1 → 97 ≤ f (p1 + i) ∧ f (p1 + i) ≤ 122 := fun i hi => hl _ (by omega) (by omega)
  split
  · have h0 := l 0
    have h1 := l 1
    have h2 := l 2
    have h3 := l 3
    have h4 := l 4
    have h5 := l 5
    generalize p2 - p1 = L at *
    rcases (show L = 0 ∨ L = 1 ∨ L = 2 ∨ L = 3 ∨ L = 4 ∨ L = 5 ∨ L = 6 by omega) with rfl | rfl | rfl | rfl | rfl | rfl | rfl
    all_goals
      simp only [u_wo]
      omega
  · omega
end Words
section Words
variable {sp : Nat → Nat} {ph : Bool} {d : Nat} {m : y_m} {f : Nat → Int} {n p p1 p2 cnt : Nat} {e q : Int}
theorem l_188 (h : u_RP m f n p1 e q cnt) : ∀ (k j : Nat), p1 + j + k = n → p1 + j ≤ u_sc u_le f n p1 → u_sc u_le f n (p1 + j) = u_sc u_le f n p1 → y_R sp ph (d + 2) 188 8 [some (y_bo 11 0 49), some (y_bi (u_wo f p1 (min j 6))), some (y_bi (j : Int))] [] m = y_rI (u_po f p1 (u_sc u_le f n p1)) m := by
  have hn := h.1.1
  have hpn := h.2.1
  intro k
  have fin : ∀ j : Nat, p1 + j ≤ n → u_sc u_le f n p1 = p1 + j → y_R sp ph (d + 2) 188 75 [none, some (y_bi (u_wo f p1 (min j 6))), some (y_bi (j : Int))] [] m = y_rI (u_po f p1 (u_sc u_le f n p1)) m := by
    intro j hj hE
    unfold u_po
    rw [hE, show p1 + j - p1 = j by omega, y_E_188_75, z_w_id (by omega) (by omega)]
    by_cases c : j ≤ 6
    · rw [if_pos (by omega), y_E_188_85, y_E_188_86, if_pos c, Nat.min_eq_left c]
    · rw [if_neg (by omega), y_E_188_86, if_neg c]
  induction k with
  | zero =>
    intro j hj hle hE
    have t182 := t_182 (sp := sp) (ph := ph) (d := d + 1) (x := p1 + j) h (by omega)
    have hc : u_c f n (p1 + j) = -1 := u_c_end (by omega)
    rw [y_E_188_8, h.2.2.2.1, show (p1 : Int) + (j : Int) = ((p1 + j : Nat) : Int) by omega, t182, e_bI, hc, if_pos (by decide)]
    refine fin j (by omega) ?_
    rw [← hE]; exact u_sc_no (by rw [hc]; rfl)
  | succ k ih =>
    intro j hj hle hE
    have t182 := t_182 (sp := sp) (ph := ph) (d := d + 1) (x := p1 + j) h (by omega)
    have cb := u_c_b (p := p1 + j) h.1
    rw [y_E_188_8, h.2.2.2.1, show (p1 : Int) + (j : Int) = ((p1 + j : Nat) : Int) by omega, t182, e_bI]
    cases c : u_le (u_c f n (p1 + j))
    · have cn := of_decide_eq_false c
      have fn := fin j (by omega) (by rw [← hE]; exact u_sc_no c)
      by_cases o : u_c f n (p1 + j) < 97
      · rw [if_pos (by rw [z_w_id (by omega) (by omega)]; exact o)]; exact fn
      · rw [if_neg (by rw [z_w_id (by omega) (by omega)]; exact o), h.2.2.2.1, show (p1 : Int) + (j : Int) = ((p1 + j : Nat) : Int) by omega, t182, e_bI, if_pos (by rw [z_w_id (by omega) (by omega)]; omega)]
        exact fn
    · have cn := of_decide_eq_true c
      obtain ⟨hlt, hs⟩ := u_sc_yes rfl c
      have ih' := ih (j + 1) (by omega) (by
        have := (u_sc_b (P := u_le) (f := f) (n := n) (p := p1 + j + 1) (by omega)).1
        rw [← hE, hs]; omega) (by rw [show p1 + (j + 1) = p1 + j + 1 by omega, ← hs]; exact hE)
      have ef : u_c f n (p1 + j) = f (p1 + j) := by unfold u_c; rw [if_pos hlt]
      rw [if_neg (by rw [z_w_id (by omega) (by omega)]; omega), h.2.2.2.1, show (p1 : Int) + (j : Int) = ((p1 + j : Nat) : Int) by omega, t182, e_bI, if_neg (by rw [z_w_id (by omega) (by omega)]; omega)]
      by_cases o : 6 ≤ j
      · rw [if_pos (by rw [z_w_id (by omega) (by omega)]; omega), y_E_188_67, y_E_188_68, show (j : Int) + 1 = ((j + 1 : Nat) : Int) by omega]
        rw [Nat.min_eq_right (by omega)] at ih'
        rw [Nat.min_eq_right o]
        exact ih'
      · rw [if_neg (by rw [z_w_id (by omega) (by omega)]; omega), h.2.2.2.1, show (p1 : Int) + (j : Int) = ((p1 + j : Nat) : Int) by omega, t182, e_bI, y_E_188_68, show (j : Int) + 1 = ((j + 1 : Nat) : Int) by omega]
        rw [Nat.min_eq_left (by omega), u_wo] at ih'
        rw [Nat.min_eq_left (by omega), ef, show 27 * u_wo f p1 j + f (p1 + j) - 97 + 1 = 27 * u_wo f p1 j + f (p1 + j) - 96 by omega]
        exact ih'
theorem t_188 (h : u_RP m f n p e q cnt) : ∃ m', y_V sp ph (d + 3) 188 [y_bo 11 0 49] m = y_rI (u_po f (u_sc u_bl f n p) (u_wp f n p)) m' ∧ q_F u_rf m m' ∧ u_RP m' f n (u_sc u_bl f n p) e q cnt := by
  obtain ⟨m1, a1, a2, a3⟩ := t_183 (sp := sp) (ph := ph) (d := d) h
  have hp := a3.2.1
  have l := l_188 (sp := sp) (ph := ph) (d := d) a3 (n - u_sc u_bl f n p) 0 (by omega) (u_sc_b (P := u_le) (f := f) hp).1 rfl
  refine ⟨m1, ?_, a2, a3⟩
  rw [y_C_188, y_E_188_0, a1, e_bV]
  exact l
theorem t_189 {x0 x1 x2 x3 x4 : Int} (h0 : 0 ≤ x0 ∧ x0 ≤ 26) (h1 : 0 ≤ x1 ∧ x1 ≤ 26) (h2 : 0 ≤ x2 ∧ x2 ≤ 26) (h3 : 0 ≤ x3 ∧ x3 ≤ 26) (h4 : 0 ≤ x4 ∧ x4 ≤ 26) : y_V sp ph (d + 1) 189 [y_bi x0, y_bi x1, y_bi x2, y_bi x3, y_bi x4] m = y_rI (if x4 = 0 then (if x3 = 0 then 27 * (27 * x0 + x1) + x2 else 27 * (27 * (27 * x0 + x1) + x2) + x3) else 27 * (if x3 = 0 then 27 * (27 * x0 + x1) + x2 else 27 * (27 * (27 * x0 + x1) + x2) + x3) + x4) m := by
  rw [y_C_189, y_E_189_0]
  by_cases a : x3 = 0
  · rw [if_neg (by rw [a]; decide), y_E_189_29, if_pos a]
    by_cases b : x4 = 0
    · rw [if_neg (by rw [b]; decide), y_E_189_49, if_pos b]
    · rw [if_pos (by rw [z_w_id (by omega) (by omega)]; exact b), y_E_189_41, y_E_189_49, if_neg b]
  · rw [if_pos (by rw [z_w_id (by omega) (by omega)]; exact a), y_E_189_22, y_E_189_29, if_neg a]
    by_cases b : x4 = 0
    · rw [if_neg (by rw [b]; decide), y_E_189_49, if_pos b]
    · rw [if_pos (by rw [z_w_id (by omega) (by omega)]; exact b), y_E_189_41, y_E_189_49, if_neg b]
def u_lt (k : Nat) : Int × Int × Int × Int × Int := match k with
  | 0 => (18, 15, 23, 19, 0)
  | 1 => (1, 16, 1, 18, 20)
  | 2 => (20, 15, 18, 14, 0)
  | 3 => (12, 1, 23, 0, 0)
  | _ => (12, 1, 3, 5, 0)
theorem t_189k {k : Nat} (hk : k < 5) : y_V sp ph (d + 1) 189 [y_bi (u_lt k).1, y_bi (u_lt k).2.1, y_bi (u_lt k).2.2.1, y_bi (u_lt k).2.2.2.1, y_bi (u_lt k).2.2.2.2] m = y_rI (u_K k) m := by
  rcases (show k = 0 ∨ k = 1 ∨ k = 2 ∨ k = 3 ∨ k = 4 by omega) with rfl | rfl | rfl | rfl | rfl <;> exact t_189 (by decide) (by decide) (by decide) (by decide) (by decide)
theorem u_K_b {k : Nat} : 0 ≤ u_K k ∧ u_K k ≤ 1000000 := by
  unfold u_K
  split <;> omega
theorem t_190 {k : Nat} (hk : k < 5) (h : u_RP m f n p 0 q cnt) : ∃ m', y_V sp ph (d + 4) 190 [y_bo 11 0 49, y_bi (u_lt k).1, y_bi (u_lt k).2.1, y_bi (u_lt k).2.2.1, y_bi (u_lt k).2.2.2.1, y_bi (u_lt k).2.2.2.2] m = y_rI (n_b (decide (u_po f (u_sc u_bl f n p) (u_wp f n p) = u_K k))) m' ∧ q_F u_rf m m' ∧ u_RP m' f n (u_sc u_bl f n p) 0 q cnt := by
  obtain ⟨m1, a1, a2, a3⟩ := t_188 (sp := sp) (ph := ph) (d := d) h
  have t189 := t_189k (sp := sp) (ph := ph) (d := d + 2) (m := m1) hk
  have hp := a3.2.1
  have pb := u_wo_b (f := f) (p1 := u_sc u_bl f n p) (p2 := u_wp f n p) (fun i h1 h2 => (u_sc_le hp h1 h2).2)
  have kb := u_K_b (k := k)
  refine ⟨m1, ?_, a2, a3⟩
  rw [y_C_190, y_E_190_0, h.2.2.2.2.1, if_neg (by decide), a1, e_bI, t189, e_bI]
  by_cases c : u_po f (u_sc u_bl f n p) (u_wp f n p) = u_K k
  · rw [if_neg (by rw [c]; exact fun r => r rfl), y_E_190_29, e_g (Or.inr rfl), decide_eq_true c]; rfl
  · rw [if_pos (by rw [z_w_id (by omega) (by omega), z_w_id (by omega) (by omega)]; exact c), y_E_190_28, y_E_190_29, e_g (Or.inl rfl), decide_eq_false c]; rfl
end Words
