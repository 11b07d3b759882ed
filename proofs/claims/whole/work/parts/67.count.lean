/-! ===== lawful rounds counted: hole by hole, and by words of rows ===== -/
def w_rm (s h : Nat) : Nat := n_bd s (2 ^ h)
theorem w_rm_bit (s h i : Nat) : (w_rm s h).testBit i = (s.testBit i && decide (i ≠ h)) := by
  unfold w_rm
  rw [n_bd_bit, Nat.testBit_two_pow]
  by_cases c : h = i
  · subst c; simp
  · have c' : i ≠ h := fun q => c q.symm
    simp [c, c']
theorem w_rm_le (s h : Nat) : w_rm s h ≤ s := n_bd_le _ _
theorem q_S_congr {f g : Nat → Int} : ∀ (k i : Nat), (∀ j, i ≤ j → j < i + k → f j = g j) → q_S f i k = q_S g i k
  | 0, _, _ => rfl
  | k + 1, i, h => by rw [q_S, q_S, h i (Nat.le_refl _) (by omega), q_S_congr k (i + 1) (fun j a b => h j (by omega) (by omega))]
theorem q_S_add {f g : Nat → Int} : ∀ (k i : Nat), q_S (fun j => f j + g j) i k = q_S f i k + q_S g i k
  | 0, _ => rfl
  | k + 1, i => by rw [q_S, q_S, q_S, q_S_add k (i + 1)]; omega
theorem q_S_mul {f : Nat → Int} (c : Int) : ∀ (k i : Nat), q_S (fun j => c * f j) i k = c * q_S f i k
  | 0, _ => by rw [q_S, q_S, Int.mul_zero]
  | k + 1, i => by rw [q_S, q_S, q_S_mul c k (i + 1), Int.mul_add]
theorem q_S_zero {f : Nat → Int} (k i : Nat) (h : ∀ j, i ≤ j → j < i + k → f j = 0) : q_S f i k = 0 := by
  induction k generalizing i with
  | zero => rfl
  | succ k ih => rw [q_S, h i (Nat.le_refl _) (by omega), ih (i + 1) (fun j a b => h j (by omega) (by omega)), Int.add_zero]
theorem q_S_nonneg {f : Nat → Int} : ∀ (k i : Nat), (∀ j, i ≤ j → j < i + k → 0 ≤ f j) → 0 ≤ q_S f i k
  | 0, _, _ => Int.le_refl _
  | k + 1, i, h => by
    rw [q_S]
    have a := h i (Nat.le_refl _) (by omega)
    have b := q_S_nonneg k (i + 1) (fun j a b => h j (by omega) (by omega))
    omega
theorem q_S_upd {f g : Nat → Int} {h : Nat} (e : ∀ j, j ≠ h → f j = g j) : ∀ (k i : Nat), i ≤ h → h < i + k → q_S f i k = q_S g i k + (f h - g h)
  | 0, i, a, b => absurd b (by omega)
  | k + 1, i, a, b => by
    rw [q_S, q_S]
    by_cases c : i = h
    · subst c
      rw [q_S_congr k (i + 1) (fun j x y => e j (by omega))]; omega
    · rw [e i c, q_S_upd e k (i + 1) (by omega) (by omega)]; omega
/-- how many of the twelve holes -/
def c_c (p : Nat → Bool) : Int := q_S (fun h => n_b (p h)) 0 12
theorem c_c_nonneg (p : Nat → Bool) : 0 ≤ c_c p := q_S_nonneg _ _ (fun j _ _ => n_b_r.1)
theorem c_c_rm {p q : Nat → Bool} {h : Nat} (hh : h < 12) (e : ∀ j, q j = (p j && decide (j ≠ h))) : c_c q = c_c p - n_b (p h) := by
  have := q_S_upd (f := fun j => n_b (q j)) (g := fun j => n_b (p j)) (h := h) (fun j hj => by rw [e j, decide_eq_true hj, Bool.and_true]) 12 0 (by omega) (by omega)
  show q_S (fun j => n_b (q j)) 0 12 = q_S (fun j => n_b (p j)) 0 12 - n_b (p h)
  rw [this, e h]
  simp [n_b]
  omega
/-- the completions of a begin of a round -/
def c_N (L lw s sec : Nat) (first : Bool) : Nat → Nat → Bool → Nat → Int
  | 0, now, i, _ => if sec < now ∧ r_may lw i (r_x L now s) = true ∧ r_may lw (r_x L now s) first = true then 1 else 0
  | f + 1, now, i, rest => q_S (fun h => if rest.testBit h = true ∧ r_may lw i (r_x L now h) = true then c_N L lw s sec first f h (r_x L now h) (w_rm rest h) else 0) 0 12
def c_F : Nat → Int
  | 0 => 1
  | n + 1 => c_F n * (n + 1 : Nat)
/-- words of rows: left is false -/
def c_W (lw : Nat) (sr first lr : Bool) : Nat → Nat → Nat → Bool → Bool → Int
  | 0, _, _, row, ac => if row = lr ∧ r_may lw ac (row != sr) = true ∧ r_may lw (row != sr) first = true then 1 else 0
  | f + 1, l, r, row, ac => (if r_may lw ac row = true ∧ 0 < l then c_W lw sr first lr f (l - 1) r false row else 0) + (if r_may lw ac (!row) = true ∧ 0 < r then c_W lw sr first lr f l (r - 1) true (!row) else 0)
theorem c_W_0 {lw : Nat} {sr first : Bool} : ∀ (f : Nat) (row ac : Bool), (f = 0 → row = true) → c_W lw sr first false f 0 f row ac = 0
  | 0, row, ac, h => by rw [c_W, h rfl, if_neg (fun q => by cases q.1)]
  | f + 1, row, ac, _ => by
    rw [c_W, if_neg (fun q => absurd q.2 (by omega)), Int.zero_add]
    split
    · exact c_W_0 f true _ (fun _ => rfl)
    · rfl
theorem c_W_1 {lw : Nat} {sr first : Bool} : ∀ (f : Nat) (row ac : Bool), (f = 0 → row = false) → c_W lw sr first true f f 0 row ac = 0
  | 0, row, ac, h => by rw [c_W, h rfl, if_neg (fun q => by cases q.1)]
  | f + 1, row, ac, _ => by
    rw [c_W, if_neg (c := _ ∧ 0 < 0) (fun q => absurd q.2 (by omega)), Int.add_zero]
    split
    · exact c_W_1 f false _ (fun _ => rfl)
    · rfl
def c_lf (L rest h : Nat) : Bool := rest.testBit h && decide (h < L)
def c_rg (L rest h : Nat) : Bool := rest.testBit h && !decide (h < L)
def c_G (L lw s sec : Nat) (first : Bool) (f : Nat) (row i : Bool) (l r : Nat) (a b : Int) : Int :=
  c_F (l - 1) * c_F r * a * c_W lw (!decide (s < L)) first false f l r row i + c_F l * c_F (r - 1) * b * c_W lw (!decide (s < L)) first true f l r row i
theorem c_x_l {L now h : Nat} (hh : h < L) : r_x L now h = !decide (now < L) := by
  unfold r_x; rw [decide_eq_true hh]; cases decide (now < L) <;> rfl
theorem c_x_r {L now h : Nat} (hh : ¬ h < L) : r_x L now h = decide (now < L) := by
  unfold r_x; rw [decide_eq_false hh]; cases decide (now < L) <;> rfl
theorem c_F_succ {l : Nat} (h : 0 < l) : c_F l = c_F (l - 1) * l := by
  cases l with
  | zero => omega
  | succ l => rw [c_F, Nat.add_sub_cancel]
theorem c_c_le (p q : Nat → Bool) : c_c (fun h => p h && q h) ≤ c_c p := by
  have : 0 ≤ q_S (fun h => n_b (p h) + -1 * n_b (p h && q h)) 0 12 := q_S_nonneg _ _ (fun j _ _ => by cases p j <;> cases q j <;> decide)
  rw [q_S_add, q_S_mul] at this
  show q_S (fun h => n_b (p h && q h)) 0 12 ≤ q_S (fun h => n_b (p h)) 0 12
  omega
theorem c_c_lin (p q : Nat → Bool) (a : Int) : q_S (fun h => n_b (p h) * (a - n_b (q h))) 0 12 = a * c_c p - c_c (fun h => p h && q h) := by
  have e : q_S (fun h => n_b (p h) * (a - n_b (q h))) 0 12 = q_S (fun h => a * n_b (p h) + -1 * n_b (p h && q h)) 0 12 := q_S_congr _ _ (fun j _ _ => by cases p j <;> cases q j <;> simp [n_b]; omega)
  rw [e, q_S_add, q_S_mul, q_S_mul]
  show a * c_c p + -1 * c_c _ = _
  omega
/-- the part of one row -/
theorem c_part {l : Nat} {a c1 c2 K2 W0 W1' : Int} (p q : Nat → Bool) (hl : c_c p = l) (ha : c_c (fun h => p h && q h) = a) : q_S (fun h => n_b (p h) * (c1 * (a - n_b (q h)) * W0 + K2)) 0 12 = c1 * W0 * ((l - 1) * a) + K2 * l := by
  have e : q_S (fun h => n_b (p h) * (c1 * (a - n_b (q h)) * W0 + K2)) 0 12 = q_S (fun h => c1 * W0 * (n_b (p h) * (a - n_b (q h))) + K2 * n_b (p h)) 0 12 := q_S_congr _ _ (fun j _ _ => by grind)
  rw [e, q_S_add, q_S_mul, q_S_mul, c_c_lin, ha, hl]
  have e2 : q_S (fun h => n_b (p h)) 0 12 = l := hl
  rw [e2]; grind
theorem c_x_ls {L h s : Nat} (hh : h < L) : r_x L h s = !decide (s < L) := by rw [r_x_comm]; exact c_x_l hh
theorem c_x_rs {L h s : Nat} (hh : ¬ h < L) : r_x L h s = decide (s < L) := by rw [r_x_comm]; exact c_x_r hh
/-- THE COUNT by words -/
theorem c_NG {L lw s sec : Nat} {first : Bool} : ∀ (f : Nat) (now rest : Nat) (i : Bool) (l r : Nat) (a b : Int), rest < 4096 → l + r = f + 1 → c_c (c_lf L rest) = l → c_c (c_rg L rest) = r → c_c (fun h => c_lf L rest h && decide (sec < h)) = a → c_c (fun h => c_rg L rest h && decide (sec < h)) = b →
    c_N L lw s sec first (f + 1) now i rest = c_G L lw s sec first (f + 1) (!decide (now < L)) i l r a b := by
  intro f
  induction f with
  | zero =>
    intro now rest i l r a b hr hlr hl hrr ha hb
    have hterm : ∀ h, 0 ≤ h → h < 0 + 12 → (if rest.testBit h = true ∧ r_may lw i (r_x L now h) = true then c_N L lw s sec first 0 h (r_x L now h) (w_rm rest h) else 0) =
        n_b (r_may lw i (!decide (now < L)) && (r_may lw (!decide (now < L)) (!decide (s < L)) && r_may lw (!decide (s < L)) first)) * n_b (c_lf L rest h && decide (sec < h)) + n_b (r_may lw i (decide (now < L)) && (r_may lw (decide (now < L)) (decide (s < L)) && r_may lw (decide (s < L)) first)) * n_b (c_rg L rest h && decide (sec < h)) := by
      intro h _ hh
      rw [c_N]
      unfold c_lf c_rg
      by_cases d : h < L
      · rw [c_x_l d, c_x_ls d, decide_eq_true d]
        by_cases e : sec < h
        · simp only [e, decide_true, Bool.and_true, Bool.not_true, Bool.and_false, true_and]
          cases rest.testBit h <;> cases r_may lw i (!decide (now < L)) <;> cases r_may lw (!decide (now < L)) (!decide (s < L)) <;> cases r_may lw (!decide (s < L)) first <;> simp [n_b]
        · simp [e, n_b]
      · rw [c_x_r d, c_x_rs d, decide_eq_false d]
        by_cases e : sec < h
        · simp only [e, decide_true, Bool.and_true, Bool.not_false, Bool.and_false, true_and]
          cases rest.testBit h <;> cases r_may lw i (decide (now < L)) <;> cases r_may lw (decide (now < L)) (decide (s < L)) <;> cases r_may lw (decide (s < L)) first <;> simp [n_b]
        · simp [e, n_b]
    have ea : q_S (fun h => n_b (c_lf L rest h && decide (sec < h))) 0 12 = a := ha
    have eb : q_S (fun h => n_b (c_rg L rest h && decide (sec < h))) 0 12 = b := hb
    have la := c_c_le (c_lf L rest) (fun h => decide (sec < h))
    have la0 := c_c_nonneg (fun h => c_lf L rest h && decide (sec < h))
    have lb := c_c_le (c_rg L rest) (fun h => decide (sec < h))
    have lb0 := c_c_nonneg (fun h => c_rg L rest h && decide (sec < h))
    rw [c_N, q_S_congr 12 0 hterm, q_S_add, q_S_mul, q_S_mul, ea, eb]
    rw [ha, hl] at la
    rw [ha] at la0
    rw [hb, hrr] at lb
    rw [hb] at lb0
    unfold c_G
    rcases (show l = 0 ∧ r = 1 ∨ l = 1 ∧ r = 0 by omega) with ⟨rfl, rfl⟩ | ⟨rfl, rfl⟩
    · have : a = 0 := by omega
      subst this
      simp only [c_W, c_F, Nat.lt_irrefl, and_false, reduceIte, Nat.zero_sub, Nat.sub_self, Nat.zero_lt_one, and_true, Bool.not_not, Bool.true_bne]
      cases r_may lw i (decide (now < L)) <;> cases r_may lw (decide (now < L)) (decide (s < L)) <;> cases r_may lw (decide (s < L)) first <;> simp [n_b]
    · have : b = 0 := by omega
      subst this
      simp only [c_W, c_F, Nat.lt_irrefl, and_false, reduceIte, Nat.zero_sub, Nat.sub_self, Nat.zero_lt_one, and_true, Bool.false_bne]
      cases r_may lw i (!decide (now < L)) <;> cases r_may lw (!decide (now < L)) (!decide (s < L)) <;> cases r_may lw (!decide (s < L)) first <;> simp [n_b]
  | succ f ih =>
    intro now rest i l r a b hr hlr hl hrr ha hb
    have la := c_c_le (c_lf L rest) (fun h => decide (sec < h))
    have la0 := c_c_nonneg (fun h => c_lf L rest h && decide (sec < h))
    have lb := c_c_le (c_rg L rest) (fun h => decide (sec < h))
    have lb0 := c_c_nonneg (fun h => c_rg L rest h && decide (sec < h))
    rw [ha, hl] at la
    rw [ha] at la0
    rw [hb, hrr] at lb
    rw [hb] at lb0
    rw [c_N]
    -- each hole of the left row, each of the right one
    have hterm : ∀ h, 0 ≤ h → h < 0 + 12 → (if rest.testBit h = true ∧ r_may lw i (r_x L now h) = true then c_N L lw s sec first (f + 1) h (r_x L now h) (w_rm rest h) else 0) =
        (if r_may lw i (!decide (now < L)) = true then n_b (c_lf L rest h) * (c_F (l - 2) * c_F r * (a - n_b (decide (sec < h))) * c_W lw (!decide (s < L)) first false (f + 1) (l - 1) r false (!decide (now < L)) + c_F (l - 1) * c_F (r - 1) * b * c_W lw (!decide (s < L)) first true (f + 1) (l - 1) r false (!decide (now < L))) else 0) +
        (if r_may lw i (decide (now < L)) = true then n_b (c_rg L rest h) * (c_F (l - 1) * c_F (r - 1) * a * c_W lw (!decide (s < L)) first false (f + 1) l (r - 1) true (decide (now < L)) + c_F l * c_F (r - 2) * (b - n_b (decide (sec < h))) * c_W lw (!decide (s < L)) first true (f + 1) l (r - 1) true (decide (now < L))) else 0) := by
      intro h _ hh
      by_cases c : rest.testBit h = true
      · by_cases d : h < L
        · have e1 : c_lf L rest h = true := by unfold c_lf; rw [c, decide_eq_true d]; rfl
          have e2 : c_rg L rest h = false := by unfold c_rg; rw [c, decide_eq_true d]; rfl
          have hl1 : c_c (c_lf L (w_rm rest h)) = l - 1 := by
            rw [c_c_rm (p := c_lf L rest) (h := h) (by omega) (fun j => by unfold c_lf; rw [w_rm_bit]; cases rest.testBit j <;> cases decide (j < L) <;> simp), hl, e1]; rfl
          have hr1 : c_c (c_rg L (w_rm rest h)) = r := by
            rw [c_c_rm (p := c_rg L rest) (h := h) (by omega) (fun j => by unfold c_rg; rw [w_rm_bit]; cases rest.testBit j <;> cases decide (j < L) <;> simp), hrr, e2]; simp [n_b]
          have ha1 : c_c (fun j => c_lf L (w_rm rest h) j && decide (sec < j)) = a - n_b (decide (sec < h)) := by
            rw [c_c_rm (p := fun j => c_lf L rest j && decide (sec < j)) (h := h) (by omega) (fun j => by unfold c_lf; rw [w_rm_bit]; cases rest.testBit j <;> cases decide (j < L) <;> cases decide (sec < j) <;> simp), ha, e1, Bool.true_and]
          have hb1 : c_c (fun j => c_rg L (w_rm rest h) j && decide (sec < j)) = b := by
            rw [c_c_rm (p := fun j => c_rg L rest j && decide (sec < j)) (h := h) (by omega) (fun j => by unfold c_rg; rw [w_rm_bit]; cases rest.testBit j <;> cases decide (j < L) <;> cases decide (sec < j) <;> simp), hb, e2]; simp [n_b]
          have l1 : 1 ≤ l := by
            have := c_c_nonneg (c_lf L (w_rm rest h))
            omega
          have := ih h (w_rm rest h) (r_x L now h) (l - 1) r _ _ (Nat.lt_of_le_of_lt (w_rm_le _ _) hr) (by omega) (by rw [hl1]; omega) hr1 ha1 hb1
          rw [this, c_x_l d, e1, e2, decide_eq_true d]
          unfold c_G
          rw [show l - 1 - 1 = l - 2 by omega]
          simp only [c, true_and, n_b, Bool.false_eq_true, reduceIte, Int.zero_mul, Int.one_mul, ite_self, Int.add_zero, Bool.not_true]
        · have e1 : c_lf L rest h = false := by unfold c_lf; rw [c, decide_eq_false d]; rfl
          have e2 : c_rg L rest h = true := by unfold c_rg; rw [c, decide_eq_false d]; rfl
          have hl1 : c_c (c_lf L (w_rm rest h)) = l := by
            rw [c_c_rm (p := c_lf L rest) (h := h) (by omega) (fun j => by unfold c_lf; rw [w_rm_bit]; cases rest.testBit j <;> cases decide (j < L) <;> simp), hl, e1]; simp [n_b]
          have hr1 : c_c (c_rg L (w_rm rest h)) = r - 1 := by
            rw [c_c_rm (p := c_rg L rest) (h := h) (by omega) (fun j => by unfold c_rg; rw [w_rm_bit]; cases rest.testBit j <;> cases decide (j < L) <;> simp), hrr, e2]; rfl
          have ha1 : c_c (fun j => c_lf L (w_rm rest h) j && decide (sec < j)) = a := by
            rw [c_c_rm (p := fun j => c_lf L rest j && decide (sec < j)) (h := h) (by omega) (fun j => by unfold c_lf; rw [w_rm_bit]; cases rest.testBit j <;> cases decide (j < L) <;> cases decide (sec < j) <;> simp), ha, e1]; simp [n_b]
          have hb1 : c_c (fun j => c_rg L (w_rm rest h) j && decide (sec < j)) = b - n_b (decide (sec < h)) := by
            rw [c_c_rm (p := fun j => c_rg L rest j && decide (sec < j)) (h := h) (by omega) (fun j => by unfold c_rg; rw [w_rm_bit]; cases rest.testBit j <;> cases decide (j < L) <;> cases decide (sec < j) <;> simp), hb, e2, Bool.true_and]
          have r1 : 1 ≤ r := by
            have := c_c_nonneg (c_rg L (w_rm rest h))
            omega
          have := ih h (w_rm rest h) (r_x L now h) l (r - 1) _ _ (Nat.lt_of_le_of_lt (w_rm_le _ _) hr) (by omega) hl1 (by rw [hr1]; omega) ha1 hb1
          rw [this, c_x_r d, e1, e2, decide_eq_false d]
          unfold c_G
          rw [show r - 1 - 1 = r - 2 by omega]
          simp only [c, true_and, n_b, Bool.false_eq_true, reduceIte, Int.zero_mul, Int.one_mul, ite_self, Int.zero_add, Bool.not_false]
      · have e1 : c_lf L rest h = false := by unfold c_lf; rw [Bool.eq_false_iff.mpr c]; rfl
        have e2 : c_rg L rest h = false := by unfold c_rg; rw [Bool.eq_false_iff.mpr c]; rfl
        rw [if_neg (fun q => c q.1), e1, e2]
        simp [n_b]
    rw [q_S_congr 12 0 hterm, q_S_add]
    have pl : ∀ c1 K2 W0 : Int, q_S (fun h => n_b (c_lf L rest h) * (c1 * (a - n_b (decide (sec < h))) * W0 + K2)) 0 12 = c1 * W0 * ((l - 1) * a) + K2 * l := fun c1 K2 W0 => c_part (c2 := 0) (W1' := 0) (c_lf L rest) (fun h => decide (sec < h)) hl ha
    have pr : ∀ c1 K2 W1 : Int, q_S (fun h => n_b (c_rg L rest h) * (K2 + c1 * (b - n_b (decide (sec < h))) * W1)) 0 12 = c1 * W1 * ((r - 1) * b) + K2 * r := fun c1 K2 W1 => by
      rw [q_S_congr (g := fun h => n_b (c_rg L rest h) * (c1 * (b - n_b (decide (sec < h))) * W1 + K2)) 12 0 (fun j _ _ => by rw [Int.add_comm K2])]
      exact c_part (c2 := 0) (W1' := 0) (c_rg L rest) (fun h => decide (sec < h)) hrr hb
    unfold c_G
    have eL : (q_S (fun h => if r_may lw i (!decide (now < L)) = true then n_b (c_lf L rest h) * (c_F (l - 2) * c_F r * (a - n_b (decide (sec < h))) * c_W lw (!decide (s < L)) first false (f + 1) (l - 1) r false (!decide (now < L)) + c_F (l - 1) * c_F (r - 1) * b * c_W lw (!decide (s < L)) first true (f + 1) (l - 1) r false (!decide (now < L))) else 0) 0 12) =
        c_F (l - 1) * c_F r * a * (if r_may lw i (!decide (now < L)) = true ∧ 0 < l then c_W lw (!decide (s < L)) first false (f + 1) (l - 1) r false (!decide (now < L)) else 0) + c_F l * c_F (r - 1) * b * (if r_may lw i (!decide (now < L)) = true ∧ 0 < l then c_W lw (!decide (s < L)) first true (f + 1) (l - 1) r false (!decide (now < L)) else 0) := by
      by_cases m : r_may lw i (!decide (now < L)) = true
      · simp only [m, reduceIte, true_and]
        rw [pl]
        by_cases l0 : l = 0
        · subst l0
          have : a = 0 := by omega
          subst this
          simp
        · rw [if_pos (by omega), if_pos (by omega), c_F_succ (show 0 < l by omega)]
          by_cases l1 : l = 1
          · subst l1
            have hr1 : r = f + 1 := by omega
            rw [show 1 - 1 = 0 from rfl, hr1, c_W_0 (f + 1) false _ (fun q => absurd q (by omega))]
            simp
          · rw [c_F_succ (show 0 < l - 1 by omega), show l - 1 - 1 = l - 2 by omega, show ((l - 1 : Nat) : Int) = (l : Int) - 1 by omega]
            grind
      · simp only [m, false_and, reduceIte, Bool.false_eq_true]
        rw [q_S_zero _ _ (fun _ _ _ => rfl)]; simp
    have eR : (q_S (fun h => if r_may lw i (decide (now < L)) = true then n_b (c_rg L rest h) * (c_F (l - 1) * c_F (r - 1) * a * c_W lw (!decide (s < L)) first false (f + 1) l (r - 1) true (decide (now < L)) + c_F l * c_F (r - 2) * (b - n_b (decide (sec < h))) * c_W lw (!decide (s < L)) first true (f + 1) l (r - 1) true (decide (now < L))) else 0) 0 12) =
        c_F (l - 1) * c_F r * a * (if r_may lw i (decide (now < L)) = true ∧ 0 < r then c_W lw (!decide (s < L)) first false (f + 1) l (r - 1) true (decide (now < L)) else 0) + c_F l * c_F (r - 1) * b * (if r_may lw i (decide (now < L)) = true ∧ 0 < r then c_W lw (!decide (s < L)) first true (f + 1) l (r - 1) true (decide (now < L)) else 0) := by
      by_cases m : r_may lw i (decide (now < L)) = true
      · simp only [m, reduceIte, true_and]
        rw [pr]
        by_cases l0 : r = 0
        · subst l0
          have : b = 0 := by omega
          subst this
          simp
        · rw [if_pos (by omega), if_pos (by omega), c_F_succ (show 0 < r by omega)]
          by_cases l1 : r = 1
          · subst l1
            have hr1 : l = f + 1 := by omega
            rw [show 1 - 1 = 0 from rfl, hr1, c_W_1 (f + 1) true _ (fun q => absurd q (by omega))]
            simp
          · rw [c_F_succ (show 0 < r - 1 by omega), show r - 1 - 1 = r - 2 by omega, show ((r - 1 : Nat) : Int) = (r : Int) - 1 by omega]
            grind
      · simp only [m, false_and, reduceIte, Bool.false_eq_true]
        rw [q_S_zero _ _ (fun _ _ _ => rfl)]; simp
    have w : ∀ lr, c_W lw (!decide (s < L)) first lr (f + 1 + 1) l r (!decide (now < L)) i = (if r_may lw i (!decide (now < L)) = true ∧ 0 < l then c_W lw (!decide (s < L)) first lr (f + 1) (l - 1) r false (!decide (now < L)) else 0) + (if r_may lw i (decide (now < L)) = true ∧ 0 < r then c_W lw (!decide (s < L)) first lr (f + 1) l (r - 1) true (decide (now < L)) else 0) := by
      intro lr
      rw [c_W, Bool.not_not]
    rw [eL, eR, w false, w true]
    grind
