/-! ===== weeks: the class ===== -/
/-- wear of a hole by the weeks given -/
def x_W (L : Nat) (K : List (List Nat)) (p : List Nat) (h : Nat) : Int := q_S (fun j => (p.getD j 0 : Int) * q_wear L (K.getD j []) h) 0 p.length
def x_dg (p : List Nat) : Int := p.foldl (fun (d : Int) (x : Nat) => d * 100 + (x : Int)) 0
def x_wv : Nat → Nat → List Nat → List (List Nat)
  | 0, left, p => [p ++ [left]]
  | k + 1, left, p => (List.range' 0 (left + 1)).flatMap (fun g => x_wv k (left - g) (p ++ [g]))
def x_mx (f : Nat → Int) : Nat → Nat → Int → Int
  | 0, _, x => x
  | k + 1, i, x => x_mx f k (i + 1) (if x < f i then f i else x)
def x_sp (L : Nat) (K : List (List Nat)) (o : Option (Int × Int)) (v : List Nat) : Option (Int × Int) := match o with
  | none => some (x_mx (x_W L K v) 12 0 0, x_dg v)
  | some b => if x_mx (x_W L K v) 12 0 0 < b.1 then some (x_mx (x_W L K v) 12 0 0, x_dg v) else some b
theorem q_wear_b {L h : Nat} {w : List Nat} : 0 ≤ q_wear L w h ∧ q_wear L w h ≤ 3 := by
  unfold q_wear
  have a := n_b_r (b := q_ac L w ((w.idxOf h : Int) - 1))
  have b := n_b_r (b := q_ac L w (w.idxOf h : Int))
  split <;> omega
theorem x_dg_add {p : List Nat} {x : Nat} : x_dg (p ++ [x]) = x_dg p * 100 + (x : Int) := by
  unfold x_dg
  rw [List.foldl_append]; rfl
theorem x_W_add {L : Nat} {K : List (List Nat)} {p : List Nat} {x h : Nat} : x_W L K (p ++ [x]) h = x_W L K p h + (x : Int) * q_wear L (K.getD p.length []) h := by
  unfold x_W
  rw [List.length_append, List.length_singleton, q_S_end, Nat.zero_add]
  have e1 : (p ++ [x]).getD p.length 0 = x := by
    rw [List.getD_eq_getElem?_getD, List.getElem?_append_right (Nat.le_refl _), Nat.sub_self]; rfl
  rw [e1]
  refine congrArg (fun z => z + (x : Int) * q_wear L (K.getD p.length []) h) (q_S_congr _ _ (fun j _ hj => ?_))
  have e2 : (p ++ [x]).getD j 0 = p.getD j 0 := by
    rw [List.getD_eq_getElem?_getD, List.getD_eq_getElem?_getD, List.getElem?_append_left (by omega)]
  rw [e2]
theorem x_W_b {L : Nat} {K : List (List Nat)} {p : List Nat} {h : Nat} (h12 : ∀ x ∈ p, x ≤ 12) (h4 : p.length ≤ 4) : 0 ≤ x_W L K p h ∧ x_W L K p h ≤ 144 := by
  have g : ∀ j, (p.getD j 0) ≤ 12 := fun j => by
    by_cases c : j < p.length
    · rw [List.getD_eq_getElem?_getD, List.getElem?_eq_getElem c]; exact h12 _ (List.getElem_mem _)
    · rw [List.getD_eq_getElem?_getD, List.getElem?_eq_none (by omega)]; exact Nat.zero_le _
  unfold x_W
  constructor
  · refine q_S_nonneg _ _ (fun j _ _ => ?_)
    exact Int.mul_nonneg (Int.natCast_nonneg _) q_wear_b.1
  · have a := q_S_le (f := fun j => (p.getD j 0 : Int) * q_wear L (K.getD j []) h) (M := 36) p.length 0 (fun j _ _ => by
      have w := q_wear_b (L := L) (w := K.getD j []) (h := h)
      have := g j
      generalize q_wear L (K.getD j []) h = z at *
      have z3 : z = 0 ∨ z = 1 ∨ z = 2 ∨ z = 3 := by omega
      rcases z3 with q | q | q | q <;> (subst q; omega))
    omega
theorem x_mx_b {f : Nat → Int} {M : Int} : ∀ (k i : Nat) (x : Int), 0 ≤ x → x ≤ M → (∀ j, i ≤ j → j < i + k → 0 ≤ f j ∧ f j ≤ M) → 0 ≤ x_mx f k i x ∧ x_mx f k i x ≤ M
  | 0, _, _, h0, h1, _ => ⟨h0, h1⟩
  | k + 1, i, x, h0, h1, h => by
    rw [x_mx]
    have a := h i (Nat.le_refl _) (by omega)
    refine x_mx_b k (i + 1) _ ?_ ?_ (fun j g1 g2 => h j (by omega) (by omega))
    · split <;> omega
    · split <;> omega
/-- what is found so far -/
def x_wo (m : y_m) (a k1 k2 : Nat) (z : Int) (o : Option (Int × Int)) : Prop := match o with
  | none => y_mI m a k1 = z
  | some b => y_mI m a k1 = b.1 ∧ y_mI m a k2 = b.2 ∧ 0 ≤ b.1 ∧ b.1 ≤ 144
theorem x_wo_F {S : Nat → Nat → Prop} {m m' : y_m} {a k1 k2 : Nat} {z : Int} {o : Option (Int × Int)} (h : x_wo m a k1 k2 z o) (hF : q_F S m m') (h1 : ¬ S a k1) (h2 : ¬ S a k2) : x_wo m' a k1 k2 z o := by
  cases o with
  | none =>
    show y_mI m' a k1 = z
    rw [q_F_I hF a k1 h1]; exact h
  | some b =>
    obtain ⟨q1, q2, q3⟩ := h
    exact ⟨by rw [q_F_I hF a k1 h1]; exact q1, by rw [q_F_I hF a k2 h2]; exact q2, q3⟩
def x_wF2 (a k : Nat) : Prop := a = 19 ∨ (a = 18 ∧ (k = 1 ∨ k = 2))
section Weeks
variable {sp : Nat → Nat} {ph : Bool} {d : Nat} {m m' : y_m} {L : Nat} {K : List (List Nat)} {p : List Nat}
theorem l_133 {r : Nat} {x : Int} (hr : r < K.length) (hK4 : K.length ≤ 4) {f : Nat → Int} : ∀ (k j : Nat) (m : y_m), j + k = 12 → u_KC m 22 L K → (∀ h, h < 12 → y_mI m 19 h = f h + (if h < j then x * q_wear L (K.getD r []) h else 0)) → ∃ m', y_R sp ph (d + 2) 133 3 [some (y_bo 9 0 18), some (y_bo 5 0 22), some (y_bi (r : Int)), some (y_bi x), some (y_bi (j : Int))] [] m = y_rV m' ∧ q_F (fun a _ => a = 19) m m' ∧ ∀ h, h < 12 → y_mI m' 19 h = f h + x * q_wear L (K.getD r []) h := by
  intro k
  induction k with
  | zero =>
    intro j m hj hC hf
    refine ⟨m, ?_, q_F_refl, fun h hh => by rw [hf h hh, if_pos (by omega)]⟩
    rw [y_E_133_3, if_pos (by rw [z_w_id (by omega) (by omega)]; omega), y_E_133_44]
  | succ k ih =>
    intro j m hj hC hf
    have s7 := s_7 (sp := sp) (ph := ph) (d := d + 1) (n := 12) (a := 19) (x := (j : Int)) (m := m) (by omega) (by omega) (by omega)
    have s7b := s_7 (sp := sp) (ph := ph) (d := d) (n := 48) (a := 27) (x := ((r * 12 + j : Nat) : Int)) (m := m) (by omega) (by omega) (by omega)
    have s88 : y_V sp ph (d + 2) 88 [y_bo 5 0 22, y_bi (r : Int), y_bi (j : Int)] m = y_rI (q_wear L (K.getD r []) j) m := by
      rw [y_C_88, y_E_88_0, show (r : Int) * 12 + (j : Int) = ((r * 12 + j : Nat) : Int) by omega, s7b, e_bI, Int.toNat_natCast]
      have := hC.2 r hr j (by omega)
      rw [show y_mI m 27 (r * 12 + j) = _ from this]
    rw [Int.toNat_natCast] at s7
    have ej := hf j (by omega)
    rw [if_neg (by omega), Int.add_zero] at ej
    have s8 := s_8 (sp := sp) (ph := ph) (d := d + 1) (n := 12) (a := 19) (x := (j : Int)) (v := f j + x * q_wear L (K.getD r []) j) (m := m) (by omega) (by omega) (by omega)
    rw [Int.toNat_natCast] at s8
    have F1 : q_F (fun a _ => a = 19) m (y_sI m 19 j (f j + x * q_wear L (K.getD r []) j)) := q_F_sI rfl
    obtain ⟨m2, r1, r2, r3⟩ := ih (j + 1) (y_sI m 19 j (f j + x * q_wear L (K.getD r []) j)) (by omega) (u_KC_F hC F1 (by omega) (fun k => by omega)) (fun h hh => by
      by_cases q : h = j
      · subst q
        rw [e_II, if_pos (by omega)]
      · rw [e_II' (by omega), hf h hh]
        refine congrArg (fun z => f h + z) ?_
        by_cases c : h < j
        · rw [if_pos c, if_pos (by omega)]
        · rw [if_neg c, if_neg (by omega)])
    refine ⟨m2, ?_, q_F_trans F1 r2, r3⟩
    rw [y_E_133_3, if_neg (by rw [z_w_id (by omega) (by omega)]; omega), s7, e_bI, s88, e_bI, ej, s8, e_bV, show (j : Int) + 1 = ((j + 1 : Nat) : Int) by omega]
    exact r1
theorem s_133 {r : Nat} {x : Int} (hr : r < K.length) (hK4 : K.length ≤ 4) {f : Nat → Int} (hC : u_KC m 22 L K) (hf : ∀ h, h < 12 → y_mI m 19 h = f h) : ∃ m', y_V sp ph (d + 3) 133 [y_bo 9 0 18, y_bo 5 0 22, y_bi (r : Int), y_bi x] m = y_rV m' ∧ q_F (fun a _ => a = 19) m m' ∧ ∀ h, h < 12 → y_mI m' 19 h = f h + x * q_wear L (K.getD r []) h := by
  obtain ⟨m', a1, a2, a3⟩ := l_133 (sp := sp) (ph := ph) (d := d) (x := x) hr hK4 (f := f) 12 0 m (by omega) hC (fun h hh => by rw [hf h hh, if_neg (by omega), Int.add_zero])
  have a1' : y_R sp ph (d + 2) 133 3 [some (y_bo 9 0 18), some (y_bo 5 0 22), some (y_bi (r : Int)), some (y_bi x), some (y_bi 0)] [] m = y_rV m' := a1
  exact ⟨m', by rw [y_C_133, y_E_133_0]; exact a1', a2, a3⟩
theorem l_134 {f : Nat → Int} {D : Int} (hf : ∀ h, h < 12 → y_mI m 19 h = f h) (hb : ∀ h, h < 12 → 0 ≤ f h ∧ f h ≤ 144) : ∀ (k j : Nat) (x : Int), j + k = 12 → 0 ≤ x → x ≤ 144 → y_R sp ph (d + 1) 134 4 [some (y_bo 9 0 18), some (y_bi D), some (y_bi x), some (y_bi (j : Int))] [] m = y_R sp ph (d + 1) 134 29 [some (y_bo 9 0 18), some (y_bi D), some (y_bi (x_mx f k j x)), none] [] m := by
  intro k
  induction k with
  | zero =>
    intro j x hj h0 h1
    rw [y_E_134_4, if_pos (by rw [z_w_id (by omega) (by omega)]; omega), x_mx]
  | succ k ih =>
    intro j x hj h0 h1
    have s7 := s_7 (sp := sp) (ph := ph) (d := d) (n := 12) (a := 19) (x := (j : Int)) (m := m) (by omega) (by omega) (by omega)
    rw [Int.toNat_natCast, hf j (by omega)] at s7
    have b := hb j (by omega)
    have s4 := s_4 (sp := sp) (ph := ph) (d := d) (m := m) (x := x) (y := f j) (by omega) (by omega) (by omega) (by omega)
    rw [y_E_134_4, if_neg (by rw [z_w_id (by omega) (by omega)]; omega), s7, e_bI, s4, e_bI, x_mx, show (j : Int) + 1 = ((j + 1 : Nat) : Int) by omega]
    exact ih (j + 1) _ (by omega) (by split <;> omega) (by split <;> omega)
theorem s_134 {v : List Nat} {o : Option (Int × Int)} (hf : ∀ h, h < 12 → y_mI m 19 h = x_W L K v h) (h12 : ∀ x ∈ v, x ≤ 12) (h4 : v.length ≤ 4) (ho : x_wo m 18 1 2 2147483647 o) : ∃ m', y_V sp ph (d + 2) 134 [y_bo 9 0 18, y_bi (x_dg v)] m = y_rV m' ∧ q_F (fun a k => a = 18 ∧ (k = 1 ∨ k = 2)) m m' ∧ x_wo m' 18 1 2 2147483647 (x_sp L K o v) := by
  have hb : ∀ h, h < 12 → 0 ≤ x_W L K v h ∧ x_W L K v h ≤ 144 := fun h _ => x_W_b h12 h4
  have mb := x_mx_b (f := x_W L K v) (M := 144) 12 0 0 (by omega) (by omega) (fun j _ hj => hb j (by omega))
  have l := l_134 (sp := sp) (ph := ph) (d := d) (D := x_dg v) hf hb 12 0 0 (by omega) (by omega) (by omega)
  have l' : y_R sp ph (d + 1) 134 4 [some (y_bo 9 0 18), some (y_bi (x_dg v)), some (y_bi 0), some (y_bi 0)] [] m = y_R sp ph (d + 1) 134 29 [some (y_bo 9 0 18), some (y_bi (x_dg v)), some (y_bi (x_mx (x_W L K v) 12 0 0)), none] [] m := l
  rw [y_C_134, y_E_134_0, l', y_E_134_29]
  unfold x_sp
  generalize x_mx (x_W L K v) 12 0 0 = x at *
  have put : x_wo (y_sI (y_sI m 18 1 x) 18 2 (x_dg v)) 18 1 2 2147483647 (some (x, x_dg v)) := ⟨by rw [e_II' (by omega), e_II], e_II, mb.1, mb.2⟩
  have FP : q_F (fun a k => a = 18 ∧ (k = 1 ∨ k = 2)) m (y_sI (y_sI m 18 1 x) 18 2 (x_dg v)) := q_F_trans (q_F_sI (by omega)) (q_F_sI (by omega))
  cases o with
  | none =>
    have e1 : y_mI m 18 1 = 2147483647 := ho
    rw [e1, if_neg (by rw [z_w_id (by omega) (by omega), z_w_id (by omega) (by omega)]; omega), y_E_134_47]
    exact ⟨_, rfl, FP, put⟩
  | some b =>
    obtain ⟨q1, q2, q3, q4⟩ := ho
    rw [q1]
    by_cases c : x < b.1
    · rw [if_neg (by rw [z_w_id (by omega) (by omega), z_w_id (by omega) (by omega)]; omega), y_E_134_47]
      refine ⟨_, rfl, FP, ?_⟩
      show x_wo _ 18 1 2 2147483647 (if x < b.1 then _ else _)
      rw [if_pos c]
      exact put
    · rw [if_pos (by rw [z_w_id (by omega) (by omega), z_w_id (by omega) (by omega)]; omega), y_E_134_47]
      refine ⟨m, rfl, q_F_refl, ?_⟩
      show x_wo m 18 1 2 2147483647 (if x < b.1 then _ else _)
      rw [if_neg c]
      exact ⟨q1, q2, q3, q4⟩
theorem u_KC_2 {S : Nat → Nat → Prop} (hC : u_KC m 22 L K) (hF : q_F S m m') (hS : ∀ a k, S a k → x_wF2 a k) : u_KC m' 22 L K := u_KC_F hC hF (fun q => by have := hS _ _ q; unfold x_wF2 at this; omega) (fun k q => by have := hS _ _ q; unfold x_wF2 at this; omega)
theorem l_132 (hK4 : K.length ≤ 4) : ∀ (k left : Nat) (p : List Nat) (o : Option (Int × Int)) (m : y_m), p.length + (k + 1) = K.length → left ≤ 12 → (∀ x ∈ p, x ≤ 12) → u_KC m 22 L K → (∀ h, h < 12 → y_mI m 19 h = x_W L K p h) → x_wo m 18 1 2 2147483647 o → ∃ m', y_V sp ph (d + 4 + k) 132 [y_bo 9 0 18, y_bo 5 0 22, y_bi (p.length : Int), y_bi (left : Int), y_bi (x_dg p)] m = y_rV m' ∧ q_F x_wF2 m m' ∧ (∀ h, h < 12 → y_mI m' 19 h = x_W L K p h) ∧ x_wo m' 18 1 2 2147483647 ((x_wv k left p).foldl (x_sp L K) o) := by
  intro k
  induction k with
  | zero =>
    intro left p o m hk hl hp hC hf ho
    have e3 : y_mI m 22 3 = (K.length : Int) := hC.1
    obtain ⟨m1, a1, a2, a3⟩ := s_133 (sp := sp) (ph := ph) (d := d) (x := (left : Int)) (r := p.length) (show p.length < K.length by omega) hK4 hC hf
    have a3' : ∀ h, h < 12 → y_mI m1 19 h = x_W L K (p ++ [left]) h := fun h hh => by rw [a3 h hh, x_W_add]
    obtain ⟨m2, b1, b2, b3⟩ := s_134 (sp := sp) (ph := ph) (d := d + 1) (v := p ++ [left]) (o := o) a3' (fun x hx => by
      rcases List.mem_append.mp hx with q | q
      · exact hp x q
      · rw [List.mem_singleton] at q; omega) (by rw [List.length_append, List.length_singleton]; omega) (x_wo_F ho a2 (by omega) (by omega))
    rw [x_dg_add] at b1
    obtain ⟨m3, c1, c2, c3⟩ := s_133 (sp := sp) (ph := ph) (d := d) (x := -(left : Int)) (r := p.length) (m := m2) (f := x_W L K (p ++ [left])) (show p.length < K.length by omega) hK4 (u_KC_2 (u_KC_2 hC a2 (fun a k q => by unfold x_wF2; omega)) b2 (fun a k q => by unfold x_wF2; omega)) (fun h hh => by rw [q_F_I b2 19 h (by omega)]; exact a3' h hh)
    refine ⟨m3, ?_, q_F_trans (q_F_mono a2 (fun a k q => by unfold x_wF2; omega)) (q_F_trans (q_F_mono b2 (fun a k q => by unfold x_wF2; omega)) (q_F_mono c2 (fun a k q => by unfold x_wF2; omega))), fun h hh => ?_, ?_⟩
    · rw [Nat.add_zero, y_C_132, y_E_132_0, e3, if_pos (by rw [z_w_id (by omega) (by omega), z_w_id (by omega) (by omega)]; omega), y_E_132_15, a1, e_bV, b1, e_bV, c1, e_bV]
    · rw [c3 h hh, x_W_add, Int.neg_mul]; omega
    · show x_wo m3 18 1 2 2147483647 (x_sp L K o (p ++ [left]))
      exact x_wo_F b3 c2 (by omega) (by omega)
  | succ k ih =>
    intro left p o m hk hl hp hC hf ho
    have e3 : y_mI m 22 3 = (K.length : Int) := hC.1
    have loop : ∀ (c g : Nat) (o : Option (Int × Int)) (m : y_m), g + c = left + 1 → u_KC m 22 L K → (∀ h, h < 12 → y_mI m 19 h = x_W L K p h) → x_wo m 18 1 2 2147483647 o → ∃ m', y_R sp ph (d + 4 + k) 132 45 [some (y_bo 9 0 18), some (y_bo 5 0 22), some (y_bi (p.length : Int)), some (y_bi (left : Int)), some (y_bi (x_dg p)), some (y_bi (g : Int))] [] m = y_rV m' ∧ q_F x_wF2 m m' ∧ (∀ h, h < 12 → y_mI m' 19 h = x_W L K p h) ∧ x_wo m' 18 1 2 2147483647 (((List.range' g c).flatMap (fun g => x_wv k (left - g) (p ++ [g]))).foldl (x_sp L K) o) := by
      intro c
      induction c with
      | zero =>
        intro g o m hg hC hf ho
        refine ⟨m, ?_, q_F_refl, hf, ho⟩
        rw [y_E_132_45, if_pos (by rw [z_w_id (by omega) (by omega), z_w_id (by omega) (by omega)]; omega), y_E_132_94]
      | succ c ihc =>
        intro g o m hg hC hf ho
        rw [List.range'_succ, List.flatMap_cons, List.foldl_append]
        obtain ⟨m1, a1, a2, a3⟩ := s_133 (sp := sp) (ph := ph) (d := d + 1 + k) (x := (g : Int)) (r := p.length) (show p.length < K.length by omega) hK4 hC hf
        have a3' : ∀ h, h < 12 → y_mI m1 19 h = x_W L K (p ++ [g]) h := fun h hh => by rw [a3 h hh, x_W_add]
        have l1 : (p ++ [g]).length = p.length + 1 := by simp
        have C1 := u_KC_2 hC a2 (fun a k q => by unfold x_wF2; omega)
        obtain ⟨m2, b1, b2, b3, b4⟩ := ih (left - g) (p ++ [g]) o m1 (by omega) (by omega) (fun x hx => by
          rcases List.mem_append.mp hx with q | q
          · exact hp x q
          · rw [List.mem_singleton] at q; omega) C1 a3' (x_wo_F ho a2 (by omega) (by omega))
        rw [x_dg_add, l1] at b1
        have C2 := u_KC_2 C1 b2 (fun a k q => q)
        obtain ⟨m3, c1, c2, c3⟩ := s_133 (sp := sp) (ph := ph) (d := d + 1 + k) (x := -(g : Int)) (r := p.length) (m := m2) (f := x_W L K (p ++ [g])) (show p.length < K.length by omega) hK4 C2 b3
        have C3 := u_KC_2 C2 c2 (fun a k q => by unfold x_wF2; omega)
        obtain ⟨m4, d1, d2, d3, d4⟩ := ihc (g + 1) _ m3 (by omega) C3 (fun h hh => by rw [c3 h hh, x_W_add, Int.neg_mul]; omega) (x_wo_F b4 c2 (by omega) (by omega))
        refine ⟨m4, ?_, q_F_trans (q_F_mono a2 (fun a k q => by unfold x_wF2; omega)) (q_F_trans b2 (q_F_trans (q_F_mono c2 (fun a k q => by unfold x_wF2; omega)) d2)), d3, d4⟩
        have a1' : y_V sp ph (d + 4 + k) 133 [y_bo 9 0 18, y_bo 5 0 22, y_bi (p.length : Int), y_bi (g : Int)] m = y_rV m1 := by rw [show d + 4 + k = d + 1 + k + 3 by omega]; exact a1
        have c1' : y_V sp ph (d + 4 + k) 133 [y_bo 9 0 18, y_bo 5 0 22, y_bi (p.length : Int), y_bi (-(g : Int))] m2 = y_rV m3 := by rw [show d + 4 + k = d + 1 + k + 3 by omega]; exact c1
        rw [y_E_132_45, if_neg (by rw [z_w_id (by omega) (by omega), z_w_id (by omega) (by omega)]; omega), a1', e_bV, show (p.length : Int) + 1 = ((p.length + 1 : Nat) : Int) by omega, show (left : Int) - (g : Int) = ((left - g : Nat) : Int) by omega, b1, e_bV, c1', e_bV, show (g : Int) + 1 = ((g + 1 : Nat) : Int) by omega]
        exact d1
    obtain ⟨m2, r1, r2, r3, r4⟩ := loop (left + 1) 0 o m (by omega) hC hf ho
    refine ⟨m2, ?_, r2, r3, r4⟩
    have r1' : y_R sp ph (d + 4 + k) 132 45 [some (y_bo 9 0 18), some (y_bo 5 0 22), some (y_bi (p.length : Int)), some (y_bi (left : Int)), some (y_bi (x_dg p)), some (y_bi 0)] [] m = y_rV m2 := r1
    rw [show d + 4 + (k + 1) = (d + 4 + k) + 1 by omega, y_C_132, y_E_132_0, e3, if_neg (by rw [z_w_id (by omega) (by omega), z_w_id (by omega) (by omega)]; omega), if_pos (by rw [z_w_id (by omega) (by omega)]; omega), y_E_132_42]
    exact r1'
theorem l_131 {x2 : Int} : ∀ (k j : Nat) (m : y_m), j + k = 12 → (∀ h, h < j → y_mI m 19 h = 0) → ∃ m', y_R sp ph (d + 1) 131 2 [some (y_bo 9 0 18), some (y_bo 5 0 22), some (y_bi x2), some (y_bi (j : Int))] [] m = y_R sp ph (d + 1) 131 23 [some (y_bo 9 0 18), some (y_bo 5 0 22), some (y_bi x2), none] [] m' ∧ q_F (fun a _ => a = 19) m m' ∧ ∀ h, h < 12 → y_mI m' 19 h = 0 := by
  intro k
  induction k with
  | zero =>
    intro j m hj hf
    exact ⟨m, by rw [y_E_131_2, if_pos (by rw [z_w_id (by omega) (by omega)]; omega)], q_F_refl, fun h hh => hf h (by omega)⟩
  | succ k ih =>
    intro j m hj hf
    have s8 := s_8 (sp := sp) (ph := ph) (d := d) (n := 12) (a := 19) (x := (j : Int)) (v := 0) (m := m) (by omega) (by omega) (by omega)
    rw [Int.toNat_natCast] at s8
    have F1 : q_F (fun a _ => a = 19) m (y_sI m 19 j 0) := q_F_sI rfl
    obtain ⟨m2, r1, r2, r3⟩ := ih (j + 1) (y_sI m 19 j 0) (by omega) (fun h hh => by
      by_cases q : h = j
      · subst q; rw [e_II]
      · rw [e_II' (by omega)]; exact hf h (by omega))
    refine ⟨m2, ?_, q_F_trans F1 r2, r3⟩
    rw [y_E_131_2, if_neg (by rw [z_w_id (by omega) (by omega)]; omega), s8, e_bV, show (j : Int) + 1 = ((j + 1 : Nat) : Int) by omega]
    exact r1
/-- the best row of weeks -/
def x_bw (L : Nat) (K : List (List Nat)) (x : Nat) : Option (Int × Int) := (x_wv (K.length - 1) x []).foldl (x_sp L K) none
theorem x_sp_some {o : Option (Int × Int)} {v : List Nat} : ∃ b, x_sp L K o v = some b := by
  cases o with
  | none => exact ⟨_, rfl⟩
  | some b =>
    by_cases c : x_mx (x_W L K v) 12 0 0 < b.1
    · exact ⟨_, if_pos c⟩
    · exact ⟨_, if_neg c⟩
theorem x_sp_fold : ∀ (l : List (List Nat)) (o : Option (Int × Int)), (l ≠ [] ∨ o ≠ none) → ∃ b, l.foldl (x_sp L K) o = some b
  | [], o, h => by
    rcases h with h | h
    · exact absurd rfl h
    · cases o with
      | none => exact absurd rfl h
      | some b => exact ⟨b, rfl⟩
  | v :: l, o, _ => by
    rw [List.foldl_cons]
    obtain ⟨b, e⟩ := x_sp_some (L := L) (K := K) (o := o) (v := v)
    exact x_sp_fold l _ (Or.inr (by rw [e]; intro q; cases q))
theorem x_wv_ne : ∀ (k left : Nat) (p : List Nat), x_wv k left p ≠ []
  | 0, _, _ => List.cons_ne_nil _ _
  | k + 1, left, p => fun q => by
    rw [x_wv, List.range'_succ, List.flatMap_cons] at q
    exact x_wv_ne k (left - 0) (p ++ [0]) (List.append_eq_nil_iff.mp q).1
theorem x_bw_some (x : Nat) : ∃ b, x_bw L K x = some b := x_sp_fold _ _ (Or.inl (x_wv_ne _ _ _))
theorem s_165 {x y : Nat} (hC : u_KC m 22 L K) (hk : K.length ≤ 4) (hn : K ≠ []) (hx1 : 1 ≤ x) (hx : x ≤ 12) (hy : y ≤ 1) : ∃ m' b, y_V sp ph (d + 11) 165 [y_bo 10 0 0, y_bi (x : Int), y_bi (y : Int)] m = y_rI (if y = 0 then b.1 else b.2) m' ∧ x_bw L K x = some b ∧ q_F x_wF2 m m' := by
  have hl : 0 < K.length := List.length_pos_iff.mpr hn
  have l165 := l_165 (sp := sp) (ph := ph) (d := d + 10) hC hk hx1 hx hy
  obtain ⟨m1, a1, a2, a3⟩ := l_131 (sp := sp) (ph := ph) (d := d + 8) (x2 := (x : Int)) 12 0 m (by omega) (fun h hh => absurd hh (Nat.not_lt_zero h))
  have a1' : y_R sp ph (d + 9) 131 2 [some (y_bo 9 0 18), some (y_bo 5 0 22), some (y_bi (x : Int)), some (y_bi 0)] [] m = _ := a1
  have F1 : q_F x_wF2 m (y_sI (y_sI m1 18 1 2147483647) 18 2 0) := q_F_trans (q_F_mono a2 (fun a k q => by unfold x_wF2; omega)) (q_F_trans (q_F_sI (by unfold x_wF2; omega)) (q_F_sI (by unfold x_wF2; omega)))
  obtain ⟨m2, b1, b2, b3, b4⟩ := l_132 (sp := sp) (ph := ph) (d := d + 5 - (K.length - 1)) (L := L) hk (K.length - 1) x [] none (y_sI (y_sI m1 18 1 2147483647) 18 2 0) (by show 0 + (K.length - 1 + 1) = K.length; omega) hx (fun z hz => by cases hz) (u_KC_2 hC F1 (fun a k q => q)) (fun h hh => by rw [e_II' (by omega), e_II' (by omega), a3 h hh]; rfl) (by show y_mI _ 18 1 = 2147483647; rw [e_II' (by omega), e_II])
  rw [show d + 5 - (K.length - 1) + 4 + (K.length - 1) = d + 9 by omega] at b1
  have b1' : y_V sp ph (d + 9) 132 [y_bo 9 0 18, y_bo 5 0 22, y_bi 0, y_bi (x : Int), y_bi 0] (y_sI (y_sI m1 18 1 2147483647) 18 2 0) = y_rV m2 := b1
  obtain ⟨b, eb⟩ := x_bw_some (L := L) (K := K) x
  have b4' : x_wo m2 18 1 2 2147483647 (x_bw L K x) := b4
  rw [eb] at b4'
  obtain ⟨q1, q2, -⟩ := b4'
  refine ⟨m2, b, ?_, eb, q_F_trans F1 b2⟩
  rw [l165, if_neg hn, y_E_165_43, y_C_131, y_E_131_0, a1', y_E_131_23, b1', e_bV, e_bV]
  rcases (show y = 0 ∨ y = 1 by omega) with rfl | rfl
  · rw [if_neg (by decide), y_E_165_76, q1, if_pos rfl]
  · rw [if_pos (by decide), y_E_165_69, y_E_165_76, q2, if_neg (by decide)]
end Weeks
