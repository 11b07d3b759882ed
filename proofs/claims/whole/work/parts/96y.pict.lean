/-! ===== pictures: see, blind ===== -/
def u_fp (P : List (Nat × Nat)) : List Nat := P.flatMap (fun pr => [pr.1, pr.2])
theorem u_fp_add {P : List (Nat × Nat)} {x y : Nat} : u_fp (P ++ [(x, y)]) = u_fp P ++ [x, y] := by
  unfold u_fp
  rw [List.flatMap_append]; rfl
theorem u_fp_len : ∀ {P : List (Nat × Nat)}, (u_fp P).length = 2 * P.length
  | [] => rfl
  | a :: P => by
    have ih := u_fp_len (P := P)
    unfold u_fp at *
    rw [List.flatMap_cons, List.length_append, ih]
    simp only [List.length_cons, List.length_nil]
    omega
theorem u_fp_mem {P : List (Nat × Nat)} {h : Nat} : h ∈ u_fp P ↔ ∃ pr ∈ P, h = pr.1 ∨ h = pr.2 := by
  unfold u_fp
  rw [List.mem_flatMap]
  constructor
  · rintro ⟨pr, h1, h2⟩
    refine ⟨pr, h1, ?_⟩
    rcases List.mem_cons.mp h2 with q | q
    · exact Or.inl q
    · exact Or.inr (List.mem_singleton.mp q)
  · rintro ⟨pr, h1, h2⟩
    refine ⟨pr, h1, ?_⟩
    rcases h2 with q | q
    · rw [q]; exact List.mem_cons_self
    · rw [q]; exact List.mem_cons_of_mem _ (List.mem_singleton.mpr rfl)
def u_Pk (L R t : Nat) (P : List (Nat × Nat)) : Prop := P.length ≤ 6 ∧ (u_fp P).Nodup ∧ ∀ h ∈ u_fp P, h < L + R ∧ t.testBit h = false
def u_PC (m : y_m) (a : Nat) (P : List (Nat × Nat)) : Prop := y_mI m a 1 = P.length ∧ (∃ s : Nat, s < 4096 ∧ y_mI m a 2 = s ∧ ∀ h, s.testBit h = decide (h ∈ u_fp P)) ∧ ∀ pr ∈ P, y_mI m (a + 1) pr.1 = pr.2 ∧ y_mI m (a + 1) pr.2 = pr.1
def u_PR (m : y_m) (P : List (Nat × Nat)) : Prop := y_mI m 49 14 = P.length ∧ ∀ i, i < P.length → y_mI m (56 + i) 0 = (P.getD i (0, 0)).1 ∧ y_mI m (56 + i) 1 = (P.getD i (0, 0)).2
theorem u_PC_F {S : Nat → Nat → Prop} {m m' : y_m} {a : Nat} {P : List (Nat × Nat)} (h : u_PC m a P) (hF : q_F S m m') (h1 : ∀ k, ¬ S a k) (h2 : ∀ k, ¬ S (a + 1) k) : u_PC m' a P := by
  obtain ⟨g1, ⟨s, g2, g3, g4⟩, g5⟩ := h
  exact ⟨by rw [q_F_I hF a 1 (h1 1)]; exact g1, ⟨s, g2, by rw [q_F_I hF a 2 (h1 2)]; exact g3, g4⟩, fun pr hp => by rw [q_F_I hF _ _ (h2 _), q_F_I hF _ _ (h2 _)]; exact g5 pr hp⟩
theorem u_PR_F {S : Nat → Nat → Prop} {m m' : y_m} {P : List (Nat × Nat)} (h : u_PR m P) (hk : P.length ≤ 6) (hF : q_F S m m') (h1 : ¬ S 49 14) (h2 : ∀ a k, S a k → a < 56 ∨ 61 < a) : u_PR m' P := by
  refine ⟨by rw [q_F_I hF 49 14 h1]; exact h.1, fun i hi => ?_⟩
  rw [q_F_I hF _ _ (fun r => by have := h2 _ _ r; omega), q_F_I hF _ _ (fun r => by have := h2 _ _ r; omega)]
  exact h.2 i hi
theorem u_PC_0 {m : y_m} {a : Nat} (h1 : y_mI m a 1 = 0) (h2 : y_mI m a 2 = 0) : u_PC m a [] := ⟨h1, ⟨0, by omega, h2, fun h => by rw [Nat.zero_testBit]; rfl⟩, fun pr hp => absurd hp List.not_mem_nil⟩
theorem u_PR_0 {m : y_m} (h1 : y_mI m 49 14 = 0) : u_PR m [] := ⟨h1, fun i hi => absurd hi (Nat.not_lt_zero i)⟩
theorem u_Pk_0 {L R t : Nat} : u_Pk L R t [] := ⟨by show 0 ≤ 6; omega, List.nodup_nil, fun h hh => absurd hh List.not_mem_nil⟩
theorem u_Pk_F {L R t : Nat} {P : List (Nat × Nat)} {x y : Nat} (h : u_Pk L R t P) (hl : P.length < 6) (hx : x < L + R) (hy : y < L + R) (hxy : x ≠ y) (tx : t.testBit x = false) (ty : t.testBit y = false) (nx : x ∉ u_fp P) (ny : y ∉ u_fp P) : u_Pk L R t (P ++ [(x, y)]) := by
  refine ⟨by rw [List.length_append, List.length_singleton]; omega, ?_, fun z hz => ?_⟩
  · rw [u_fp_add, List.nodup_append]
    refine ⟨h.2.1, ?_, fun a ha c hc r => ?_⟩
    · rw [List.nodup_cons]
      exact ⟨fun q => hxy (List.mem_singleton.mp q), List.nodup_cons.mpr ⟨List.not_mem_nil, List.nodup_nil⟩⟩
    · subst r
      rcases List.mem_cons.mp hc with q | q
      · exact nx (q ▸ ha)
      · exact ny (List.mem_singleton.mp q ▸ ha)
  · rw [u_fp_add] at hz
    rcases List.mem_append.mp hz with q | q
    · exact h.2.2 z q
    · rcases List.mem_cons.mp q with q | q
      · subst q; exact ⟨hx, tx⟩
      · rw [List.mem_singleton] at q; subst q; exact ⟨hy, ty⟩
/-- what cannot be seen -/
def u_so (t : Nat) (P : List (Nat × Nat)) (x y : Nat) : Prop := t.testBit x = true ∨ t.testBit y = true ∨ x ∈ u_fp P ∨ y ∈ u_fp P ∨ P.length = 6
theorem n_two0 {s x y : Nat} : s &&& (1 <<< x ||| 1 <<< y) = 0 ↔ (s.testBit x = false ∧ s.testBit y = false) := by
  have b : ∀ i, (s &&& (1 <<< x ||| 1 <<< y)).testBit i = (s.testBit i && (decide (x = i) || decide (y = i))) := fun i => by
    rw [Nat.testBit_and, Nat.testBit_or, Nat.one_shiftLeft, Nat.one_shiftLeft, Nat.testBit_two_pow, Nat.testBit_two_pow]
  constructor
  · intro h
    rw [h] at b
    have bx := b x
    have bY := b y
    rw [Nat.zero_testBit] at bx bY
    simp at bx bY
    exact ⟨bx, bY⟩
  · intro h
    apply Nat.eq_of_testBit_eq
    intro i
    rw [b, Nat.zero_testBit]
    by_cases c1 : x = i
    · subst c1; rw [h.1]; rfl
    · by_cases c2 : y = i
      · subst c2; rw [h.2]; rfl
      · rw [decide_eq_false c1, decide_eq_false c2]; exact Bool.and_false _
section Pict
variable {sp : Nat → Nat} {ph : Bool} {d : Nat} {m m' : y_m} {L R A B t lw X : Nat} {w : List Nat} {P : List (Nat × Nat)}
theorem s_170y {x : Int} (hU : c_K m L R A B t lw X w) (h0 : 0 ≤ x) (h1 : x < L + R) : y_V sp ph (d + 3) 170 [y_bo 10 0 0, y_bi x] m = y_rV m := by
  obtain ⟨-, k0, k1, k2, k3, k4, k5, k6, k7, k8, -⟩ := hU
  have s39 := s_39 (sp := sp) (ph := ph) (d := d) (m := m) (x := x) k0 k1 k7 k8 (by omega) (by omega)
  rw [y_C_170, y_E_170_0, s39, e_bI, decide_eq_true ⟨h0, h1⟩, if_pos (by decide), y_E_170_22]
theorem s_170n {x : Int} (hU : c_K m L R A B t lw X w) (h0 : -2147483648 ≤ x) (h1 : x < 2147483648) (hx : ¬ (0 ≤ x ∧ x < L + R)) : y_V sp true (d + 3) 170 [y_bo 10 0 0, y_bi x] m = some (.inr 1, y_tm m) := by
  obtain ⟨-, k0, k1, k2, k3, k4, k5, k6, k7, k8, -⟩ := hU
  have s39 := s_39 (sp := sp) (ph := true) (d := d) (m := m) (x := x) k0 k1 k7 k8 h0 h1
  rw [y_C_170, y_E_170_0, s39, e_bI, decide_eq_false hx, if_neg (by decide)]; rfl
theorem s_156r {x y : Int} (hU : c_K m L R A B t lw X w) (h0 : -2147483648 ≤ x) (h1 : x < 2147483648) (h2 : -2147483648 ≤ y) (h3 : y < 2147483648) (hx : ¬ ((0 ≤ x ∧ x < L + R) ∧ (0 ≤ y ∧ y < L + R))) : y_V sp true (d + 4) 156 [y_bo 10 0 0, y_bi x, y_bi y] m = some (.inr 1, y_tm m) := by
  rw [y_C_156, y_E_156_0]
  by_cases c : 0 ≤ x ∧ x < L + R
  · have a := s_170y (sp := sp) (ph := true) (d := d) hU c.1 c.2
    have b := s_170n (sp := sp) (d := d) hU h2 h3 (fun r => hx ⟨c, r⟩)
    rw [a, e_bV, b]; rfl
  · have b := s_170n (sp := sp) (d := d) hU h0 h1 c
    rw [b]; rfl
theorem s_156s {x : Nat} (hU : c_K m L R A B t lw X w) (hx : x < L + R) : y_V sp true (d + 4) 156 [y_bo 10 0 0, y_bi (x : Int), y_bi (x : Int)] m = some (.inr 0, y_tm m) := by
  have a := s_170y (sp := sp) (ph := true) (d := d) (x := (x : Int)) hU (by omega) (by omega)
  rw [y_C_156, y_E_156_0, a, e_bV, a, e_bV, if_neg (fun r => r rfl)]; rfl
def u_sf (a k : Nat) : Prop := (a = 25 ∧ 1 ≤ k ∧ k ≤ 2) ∨ a = 26
theorem s_156 {x y : Nat} (hU : c_K m L R A B t lw X w) (hP : u_PC m 25 P) (hk : u_Pk L R t P) (hx : x < L + R) (hy : y < L + R) (hxy : x ≠ y) : (u_so t P x y → y_V sp ph (d + 4) 156 [y_bo 10 0 0, y_bi (x : Int), y_bi (y : Int)] m = y_rI (-1) m) ∧ (¬ u_so t P x y → ∃ m', y_V sp ph (d + 4) 156 [y_bo 10 0 0, y_bi (x : Int), y_bi (y : Int)] m = y_rI ((P.length : Int) + 1) m' ∧ q_F u_sf m m' ∧ u_PC m' 25 (P ++ [(x, y)])) := by
  have a := s_170y (sp := sp) (ph := ph) (d := d) (x := (x : Int)) hU (by omega) (by omega)
  have b := s_170y (sp := sp) (ph := ph) (d := d) (x := (y : Int)) hU (by omega) (by omega)
  obtain ⟨-, k0, k1, k2, k3, k4, k5, k6, k7, k8, k9, k10, k11, -⟩ := hU
  obtain ⟨p1, ⟨s, p2, p3, p4⟩, p5⟩ := hP
  have hl := hk.1
  have s40x := s_40 (sp := sp) (ph := ph) (d := d + 2) (x := x) k4 k11 (by omega)
  have s40y := s_40 (sp := sp) (ph := ph) (d := d + 2) (x := y) k4 k11 (by omega)
  have px12 : 1 <<< x < 4096 := by rw [Nat.one_shiftLeft]; exact Nat.pow_lt_pow_right (n := 12) (by decide) (by omega)
  have py12 : 1 <<< y < 4096 := by rw [Nat.one_shiftLeft]; exact Nat.pow_lt_pow_right (n := 12) (by decide) (by omega)
  have pxy : (1 <<< x ||| 1 <<< y) < 4096 := Nat.or_lt_two_pow (n := 12) px12 py12
  have eo : z_ior (z_ishl 1 (x : Int)) (z_ishl 1 (y : Int)) = ((1 <<< x ||| 1 <<< y : Nat) : Int) := by
    rw [show (1 : Int) = ((1 : Nat) : Int) from rfl, n_ishl (by omega) (by omega), n_ishl (by omega) (by omega), n_ior (by omega) (by omega)]
  have ea : z_iand (s : Int) ((1 <<< x ||| 1 <<< y : Nat) : Int) = ((s &&& (1 <<< x ||| 1 <<< y) : Nat) : Int) := n_iand (by omega) (by omega)
  have sb : (s &&& (1 <<< x ||| 1 <<< y)) < 2147483648 := Nat.lt_of_le_of_lt Nat.and_le_left (by omega)
  have n2 := n_two0 (s := s) (x := x) (y := y)
  rw [p4 x, p4 y, decide_eq_false_iff_not, decide_eq_false_iff_not] at n2
  have hne : ¬ z_w (x : Int) = z_w (y : Int) := by rw [z_w_id (by omega) (by omega), z_w_id (by omega) (by omega)]; omega
  unfold u_so
  rw [y_C_156, y_E_156_0, a, e_bV, b, e_bV, if_pos hne, y_E_156_25, s40x, e_bI]
  cases tx : t.testBit x
  · rw [if_neg (by decide), s40y, e_bI]
    cases ty : t.testBit y
    · rw [if_pos (by decide), y_E_156_49, y_C_82, y_E_82_0, p1, p3, eo, ea]
      by_cases c6 : P.length = 6
      · rw [if_pos (by rw [z_w_id (by omega) (by omega)]; omega), y_E_82_26, e_bI, if_pos (by decide), y_E_156_77, y_E_156_78]
        exact ⟨fun _ => rfl, fun r => absurd (Or.inr (Or.inr (Or.inr (Or.inr c6)))) r⟩
      · rw [if_neg (by rw [z_w_id (by omega) (by omega)]; omega)]
        by_cases cu : s &&& (1 <<< x ||| 1 <<< y) = 0
        · have nu := n2.mp cu
          rw [cu, if_pos (by decide), y_E_82_28]
          have s8a := s_8 (sp := sp) (ph := ph) (d := d + 1) (n := 12) (a := 25 + 1) (x := (x : Int)) (v := (y : Int)) (m := m) (by omega) (by omega) (by omega)
          have s8b := s_8 (sp := sp) (ph := ph) (d := d + 1) (n := 12) (a := 25 + 1) (x := (y : Int)) (v := (x : Int)) (m := y_sI m 26 x y) (by omega) (by omega) (by omega)
          rw [Int.toNat_natCast] at s8a s8b
          rw [s8a, e_bV, s8b, e_bV]
          have e2 : y_mI (y_sI (y_sI m 26 x y) 26 y x) 25 2 = s := by rw [e_II' (by omega), e_II' (by omega)]; exact p3
          have eo2 : z_ior (s : Int) ((1 <<< x ||| 1 <<< y : Nat) : Int) = ((s ||| (1 <<< x ||| 1 <<< y) : Nat) : Int) := n_ior (by omega) (by omega)
          have e1 : y_mI (y_sI (y_sI (y_sI m 26 x y) 26 y x) 25 2 ((s ||| (1 <<< x ||| 1 <<< y) : Nat) : Int)) 25 1 = P.length := by rw [e_II' (by omega), e_II' (by omega), e_II' (by omega)]; exact p1
          rw [e2, eo2, e1, e_bI, if_neg (by decide), e_II, y_E_156_78]
          refine ⟨fun r => ?_, fun _ => ⟨_, rfl, q_F_trans (q_F_sI (by unfold u_sf; omega)) (q_F_trans (q_F_sI (by unfold u_sf; omega)) (q_F_trans (q_F_sI (by unfold u_sf; omega)) (q_F_sI (by unfold u_sf; omega)))), ?_, ⟨_, Nat.or_lt_two_pow (n := 12) p2 pxy, ?_, fun z => ?_⟩, fun pr hpr => ?_⟩⟩
          · rcases r with r | r | r | r | r
            · cases r
            · cases r
            · exact absurd r nu.1
            · exact absurd r nu.2
            · exact absurd r c6
          · rw [e_II, List.length_append, List.length_singleton]; omega
          · rw [e_II' (by omega), e_II]
          · rw [u_fp_add, Nat.testBit_or, Nat.testBit_or, p4, Nat.one_shiftLeft, Nat.one_shiftLeft, Nat.testBit_two_pow, Nat.testBit_two_pow]
            rw [Bool.eq_iff_iff, Bool.or_eq_true, Bool.or_eq_true, decide_eq_true_iff, decide_eq_true_iff, decide_eq_true_iff, decide_eq_true_iff, List.mem_append, List.mem_cons, List.mem_singleton]
            constructor
            · rintro (q | q | q)
              · exact Or.inl q
              · exact Or.inr (Or.inl q.symm)
              · exact Or.inr (Or.inr q.symm)
            · rintro (q | q | q)
              · exact Or.inl q
              · exact Or.inr (Or.inl q.symm)
              · exact Or.inr (Or.inr q.symm)
          · rcases List.mem_append.mp hpr with q | q
            · have f1 : pr.1 ∈ u_fp P := u_fp_mem.mpr ⟨pr, q, Or.inl rfl⟩
              have f2 : pr.2 ∈ u_fp P := u_fp_mem.mpr ⟨pr, q, Or.inr rfl⟩
              have g1 : pr.1 ≠ x := fun r => nu.1 (r ▸ f1)
              have g2 : pr.1 ≠ y := fun r => nu.2 (r ▸ f1)
              have g3 : pr.2 ≠ x := fun r => nu.1 (r ▸ f2)
              have g4 : pr.2 ≠ y := fun r => nu.2 (r ▸ f2)
              show y_mI _ 26 _ = _ ∧ y_mI _ 26 _ = _
              rw [e_II' (by omega), e_II' (by omega), e_II' (by omega), e_II' (by omega), e_II' (by omega), e_II' (by omega), e_II' (by omega), e_II' (by omega)]
              exact p5 pr q
            · rw [List.mem_singleton] at q
              subst q
              show y_mI _ 26 _ = _ ∧ y_mI _ 26 _ = _
              rw [e_II' (by omega), e_II' (by omega), e_II' (by omega), e_II, e_II' (by omega), e_II' (by omega), e_II]
              exact ⟨rfl, rfl⟩
        · rw [if_neg (by rw [z_w_id (by omega) (by omega)]; omega), y_E_82_26, e_bI, if_pos (by decide), y_E_156_77, y_E_156_78]
          refine ⟨fun _ => rfl, fun r => ?_⟩
          exfalso
          by_cases q1 : x ∈ u_fp P
          · exact r (Or.inr (Or.inr (Or.inl q1)))
          · by_cases q2 : y ∈ u_fp P
            · exact r (Or.inr (Or.inr (Or.inr (Or.inl q2))))
            · exact cu (n2.mpr ⟨q1, q2⟩)
    · rw [if_neg (by decide), y_E_156_47]
      exact ⟨fun _ => rfl, fun r => absurd (Or.inr (Or.inl rfl)) r⟩
  · rw [if_pos (by decide), y_E_156_47]
    exact ⟨fun _ => rfl, fun r => absurd (Or.inl rfl) r⟩
end Pict
