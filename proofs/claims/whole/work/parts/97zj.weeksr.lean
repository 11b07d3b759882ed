/-! ===== weeks: the reference ===== -/
theorem x_mx_app {f : Nat → Int} : ∀ (a b i : Nat) (x : Int), x_mx f (a + b) i x = x_mx f b (i + a) (x_mx f a i x)
  | 0, b, i, x => by rw [Nat.zero_add, Nat.add_zero, x_mx]
  | a + 1, b, i, x => by
    rw [show a + 1 + b = (a + b) + 1 by omega, x_mx, x_mx_app a b (i + 1), x_mx, show i + 1 + a = i + (a + 1) by omega]
theorem x_mx_tail {f : Nat → Int} : ∀ (k i : Nat) (x : Int), 0 ≤ x → (∀ j, i ≤ j → f j = 0) → x_mx f k i x = x
  | 0, _, _, _, _ => by rw [x_mx]
  | k + 1, i, x, h0, h => by
    rw [x_mx, h i (Nat.le_refl _), if_neg (by omega)]
    exact x_mx_tail k (i + 1) x h0 (fun j hj => h j (by omega))
def x_Fr (p a k : Nat) : Prop := (a = 49 ∧ (k = 45 ∨ k = 46)) ∨ (a = 103 ∧ p ≤ k)
def x_wk (m : y_m) (p : List Nat) : Prop := ∀ j, j < p.length → y_mI m 103 j = ((p.getD j 0 : Nat) : Int)
/-- what the reference holds -/
def x_R0 (m : y_m) (L R : Nat) (K : List (List Nat)) : Prop := y_mI m 52 0 = (L : Int) ∧ y_mI m 52 1 = (R : Int) ∧ u_KR m K
theorem x_R0_F {S : Nat → Nat → Prop} {m m' : y_m} {L R : Nat} {K : List (List Nat)} (h : x_R0 m L R K) (hk : K.length ≤ 4) (hF : q_F S m m') (hS : ∀ a k, S a k → x_Fr 0 a k) : x_R0 m' L R K := by
  refine ⟨?_, ?_, u_KR_F h.2.2 hk hF (fun q => by have := hS _ _ q; unfold x_Fr at this; omega) (fun a k q => by have := hS _ _ q; unfold x_Fr at this; omega)⟩
  · rw [q_F_I hF 52 0 (fun q => by have := hS _ _ q; unfold x_Fr at this; omega)]; exact h.1
  · rw [q_F_I hF 52 1 (fun q => by have := hS _ _ q; unfold x_Fr at this; omega)]; exact h.2.1
theorem x_wk_F {S : Nat → Nat → Prop} {m m' : y_m} {p : List Nat} {n : Nat} (h : x_wk m p) (hF : q_F S m m') (hS : ∀ a k, S a k → x_Fr n a k) (hn : p.length ≤ n) : x_wk m' p := fun j hj => by
  rw [q_F_I hF 103 j (fun q => by have := hS _ _ q; unfold x_Fr at this; omega)]; exact h j hj
theorem x_wk_add {m : y_m} {p : List Nat} {x : Nat} (h : x_wk m p) : x_wk (y_sI m 103 p.length (x : Int)) (p ++ [x]) := fun j hj => by
  rw [List.length_append, List.length_singleton] at hj
  by_cases c : j < p.length
  · rw [e_II' (by omega), h j c, List.getD_eq_getElem?_getD, List.getD_eq_getElem?_getD, List.getElem?_append_left c]
  · have e : j = p.length := by omega
    subst e
    rw [e_II, List.getD_eq_getElem?_getD, List.getElem?_append_right (Nat.le_refl _), Nat.sub_self]; rfl
section Weeks
variable {sp : Nat → Nat} {ph : Bool} {d : Nat} {m m' : y_m} {L R : Nat} {K : List (List Nat)} {p v : List Nat}
theorem x_wear_0 (hk : u_Kk L R K) {j h : Nat} (hh : L + R ≤ h) : q_wear L (K.getD j []) h = 0 := by
  unfold q_wear
  refine if_neg (fun q => ?_)
  by_cases c : j < K.length
  · rw [List.getD_eq_getElem?_getD, List.getElem?_eq_getElem c] at q
    have := (hk.2 _ (List.getElem_mem c)).2.2 h q
    omega
  · rw [List.getD_eq_getElem?_getD, List.getElem?_eq_none (by omega)] at q
    cases q
theorem x_mx_R (hk : u_Kk L R K) (h6 : L ≤ 6) (hR : R ≤ 6) (h12 : ∀ x ∈ v, x ≤ 12) (h4 : v.length ≤ 4) : x_mx (x_W L K v) 12 0 0 = x_mx (x_W L K v) (L + R) 0 0 := by
  have e : x_mx (x_W L K v) 12 0 0 = x_mx (x_W L K v) (L + R + (12 - (L + R))) 0 0 := by rw [show L + R + (12 - (L + R)) = 12 by omega]
  have b := x_mx_b (f := x_W L K v) (M := 144) (L + R) 0 0 (by omega) (by omega) (fun j _ _ => x_W_b h12 h4)
  rw [e, x_mx_app]
  refine x_mx_tail _ _ _ b.1 (fun j hj => ?_)
  unfold x_W
  exact q_S_zero _ _ (fun i _ _ => by rw [x_wear_0 hk (by omega), Int.mul_zero])
theorem l_290a (hk : u_Kk L R K) (h6 : L ≤ 6) (hR6 : R ≤ 6) (h0 : x_R0 m L R K) (hw : x_wk m v) (hv : v.length = K.length) {h : Nat} (hh : h < 12) {x3 x4 : Int} : ∀ (c j : Nat) (x6 : Int), j + c = K.length → y_R sp ph (d + 3) 290 40 [some (y_bo 11 0 49), none, none, some (y_bi x3), some (y_bi x4), some (y_bi (h : Int)), some (y_bi x6), some (y_bi (j : Int))] [] m = y_R sp ph (d + 3) 290 91 [some (y_bo 11 0 49), none, none, some (y_bi x3), some (y_bi x4), some (y_bi (h : Int)), some (y_bi (x6 + q_S (fun j => (v.getD j 0 : Int) * q_wear L (K.getD j []) h) j c)), none] [] m := by
  have hk4 := hk.1
  obtain ⟨hL, hR, hKR⟩ := h0
  intro c
  induction c with
  | zero =>
    intro j x6 hj
    rw [y_E_290_40, hKR.1, if_pos (by rw [z_w_id (by omega) (by omega), z_w_id (by omega) (by omega)]; omega)]
    show _ = y_R sp ph (d + 3) 290 91 [some (y_bo 11 0 49), none, none, some (y_bi x3), some (y_bi x4), some (y_bi (h : Int)), some (y_bi (x6 + 0)), none] [] m
    rw [Int.add_zero]
  | succ c ih =>
    intro j x6 hj
    have hjl : j < K.length := by omega
    have hm : K.getD j [] ∈ K := by rw [List.getD_eq_getElem?_getD, List.getElem?_eq_getElem hjl]; exact List.getElem_mem _
    obtain ⟨k1, k2, k3⟩ := hk.2 _ hm
    obtain ⟨g1, g2⟩ := hKR.2 j hjl
    have hb : ∀ z ∈ K.getD j [], z < 12 := fun z hz => Nat.lt_of_lt_of_le (k3 z hz) (by have := hk4; omega)
    have t286 := t_286 (sp := sp) (ph := ph) (d := d) (m := m) (a := 63 + j) (n1 := 13) (w := K.getD j []) (x := h) (L := L) g2 k1 k2 (by omega) hb hh hL h6
    have ew : y_mI m 103 j = ((v.getD j 0 : Nat) : Int) := hw j (by omega)
    rw [y_E_290_40, hKR.1, if_neg (by rw [z_w_id (by omega) (by omega), z_w_id (by omega) (by omega)]; omega), e_g ⟨by omega, by omega⟩, e_g ⟨by omega, by omega⟩, e_g ⟨by omega, by omega⟩, Int.toNat_natCast, Nat.one_mul, g1, t286, e_bI, ew, show (j : Int) + 1 = ((j + 1 : Nat) : Int) by omega, ih (j + 1) _ (by omega)]
    show y_R sp ph (d + 3) 290 91 [some (y_bo 11 0 49), none, none, some (y_bi x3), some (y_bi x4), some (y_bi (h : Int)), some (y_bi (x6 + (v.getD j 0 : Int) * q_wear L (K.getD j []) h + q_S (fun j => (v.getD j 0 : Int) * q_wear L (K.getD j []) h) (j + 1) c)), none] [] m = y_R sp ph (d + 3) 290 91 [some (y_bo 11 0 49), none, none, some (y_bi x3), some (y_bi x4), some (y_bi (h : Int)), some (y_bi (x6 + ((v.getD j 0 : Int) * q_wear L (K.getD j []) h + q_S (fun j => (v.getD j 0 : Int) * q_wear L (K.getD j []) h) (j + 1) c))), none] [] m
    rw [Int.add_assoc]
theorem l_290b (hk : u_Kk L R K) (h6 : L ≤ 6) (hR6 : R ≤ 6) (h0 : x_R0 m L R K) (hw : x_wk m v) (hv : v.length = K.length) (h12 : ∀ x ∈ v, x ≤ 12) {x4 : Int} : ∀ (c h : Nat) (x3 : Int), h + c = L + R → 0 ≤ x3 → x3 ≤ 144 → y_R sp ph (d + 3) 290 25 [some (y_bo 11 0 49), none, none, some (y_bi x3), some (y_bi x4), some (y_bi (h : Int)), none, none] [] m = y_R sp ph (d + 3) 290 110 [some (y_bo 11 0 49), none, none, some (y_bi (x_mx (x_W L K v) c h x3)), some (y_bi x4), none, none, none] [] m := by
  have hk4 := hk.1
  have t199 := t_199 (sp := sp) (ph := ph) (d := d + 2) (m := m)
  rw [h0.1, h0.2.1] at t199
  intro c
  induction c with
  | zero =>
    intro h x3 hh g0 g1
    rw [y_E_290_25, t199, e_bI, if_pos (by rw [z_w_id (by omega) (by omega), z_w_id (by omega) (by omega)]; omega), x_mx]
  | succ c ih =>
    intro h x3 hh g0 g1
    have a := l_290a (sp := sp) (ph := ph) (d := d) (m := m) (v := v) hk h6 hR6 h0 hw hv (h := h) (by omega) (x3 := x3) (x4 := x4) K.length 0 0 (by omega)
    rw [Int.zero_add, ← hv] at a
    have eW : q_S (fun j => (v.getD j 0 : Int) * q_wear L (K.getD j []) h) 0 v.length = x_W L K v h := rfl
    rw [eW] at a
    have a' : y_R sp ph (d + 3) 290 40 [some (y_bo 11 0 49), none, none, some (y_bi x3), some (y_bi x4), some (y_bi (h : Int)), some (y_bi 0), some (y_bi 0)] [] m = _ := a
    have wb := x_W_b (L := L) (K := K) (p := v) (h := h) h12 (by omega)
    have ih' := ih (h + 1) (if x3 < x_W L K v h then x_W L K v h else x3) (by omega) (by split <;> omega) (by split <;> omega)
    rw [show ((h + 1 : Nat) : Int) = (h : Int) + 1 by omega] at ih'
    rw [y_E_290_25, t199, e_bI, if_neg (by rw [z_w_id (by omega) (by omega), z_w_id (by omega) (by omega)]; omega), a', y_E_290_91, x_mx]
    by_cases q : x3 < x_W L K v h
    · rw [if_pos q] at ih' ⊢
      rw [if_neg (by rw [z_w_id (by omega) (by omega), z_w_id (by omega) (by omega)]; omega), y_E_290_103]
      exact ih'
    · rw [if_neg q] at ih' ⊢
      rw [if_pos (by rw [z_w_id (by omega) (by omega), z_w_id (by omega) (by omega)]; omega), y_E_290_102, y_E_290_103]
      exact ih'
theorem l_290c (h0 : x_R0 m L R K) (hk4 : K.length ≤ 4) (hw : x_wk m v) (hv : v.length = K.length) {x3 : Int} : ∀ (c j : Nat), j + c = K.length → y_R sp ph d 290 113 [some (y_bo 11 0 49), none, none, some (y_bi x3), some (y_bi (x_dg (v.take j))), some (y_bi (j : Int)), none, none] [] m = y_R sp ph d 290 143 [some (y_bo 11 0 49), none, none, some (y_bi x3), some (y_bi (x_dg v)), none, none, none] [] m := by
  intro c
  induction c with
  | zero =>
    intro j hj
    rw [y_E_290_113, h0.2.2.1, if_pos (by rw [z_w_id (by omega) (by omega), z_w_id (by omega) (by omega)]; omega), List.take_of_length_le (by omega)]
  | succ c ih =>
    intro j hj
    have ew : y_mI m 103 j = ((v.getD j 0 : Nat) : Int) := hw j (by omega)
    have et : v.take (j + 1) = v.take j ++ [v.getD j 0] := by
      rw [List.take_add_one, List.getD_eq_getElem?_getD, List.getElem?_eq_getElem (show j < v.length by omega)]; rfl
    have ed : 100 * x_dg (v.take j) + ((v.getD j 0 : Nat) : Int) = x_dg (v.take (j + 1)) := by
      rw [et, x_dg_add, Int.mul_comm]
    rw [y_E_290_113, h0.2.2.1, if_neg (by rw [z_w_id (by omega) (by omega), z_w_id (by omega) (by omega)]; omega), e_g ⟨by omega, by omega⟩, Int.toNat_natCast, ew, ed, show (j : Int) + 1 = ((j + 1 : Nat) : Int) by omega]
    exact ih (j + 1) (by omega)
theorem l_290 (hk : u_Kk L R K) (h6 : L ≤ 6) (hR6 : R ≤ 6) : ∀ (k left : Nat) (p : List Nat) (o : Option (Int × Int)) (m : y_m), p.length + (k + 1) = K.length → left ≤ 12 → (∀ x ∈ p, x ≤ 12) → x_R0 m L R K → x_wk m p → x_wo m 49 45 46 (-1) o → ∃ m', y_V sp ph (d + 4 + k) 290 [y_bo 11 0 49, y_bi (p.length : Int), y_bi (left : Int)] m = y_rV m' ∧ q_F (x_Fr p.length) m m' ∧ x_wo m' 49 45 46 (-1) ((x_wv k left p).foldl (x_sp L K) o) := by
  have hk4 := hk.1
  intro k
  induction k with
  | zero =>
    intro left p o m hp hl hp12 h0 hw ho
    have F1 : q_F (x_Fr p.length) m (y_sI m 103 p.length (left : Int)) := q_F_sI (by unfold x_Fr; omega)
    have h01 := x_R0_F h0 hk4 F1 (fun a k q => by unfold x_Fr at *; omega)
    have hw1 := x_wk_add (x := left) hw
    have ho1 := x_wo_F (m' := y_sI m 103 p.length (left : Int)) ho (q_F_sI (S := fun a _ => a = 103) rfl) (by omega) (by omega)
    have hv : (p ++ [left]).length = K.length := by rw [List.length_append, List.length_singleton]; omega
    have h12 : ∀ x ∈ p ++ [left], x ≤ 12 := fun x hx => by
      rcases List.mem_append.mp hx with q | q
      · exact hp12 x q
      · rw [List.mem_singleton] at q; omega
    have mb := x_mx_b (f := x_W L K (p ++ [left])) (M := 144) 12 0 0 (by omega) (by omega) (fun j _ _ => x_W_b h12 (by omega))
    have b := l_290b (sp := sp) (ph := ph) (d := d) (v := p ++ [left]) (x4 := 0) hk h6 hR6 h01 hw1 hv h12 (L + R) 0 0 (by omega) (by omega) (by omega)
    rw [← x_mx_R hk h6 hR6 h12 (by omega)] at b
    have b' : y_R sp ph (d + 3) 290 25 [some (y_bo 11 0 49), none, none, some (y_bi 0), some (y_bi 0), some (y_bi 0), none, none] [] (y_sI m 103 p.length (left : Int)) = _ := b
    have c := l_290c (sp := sp) (ph := ph) (d := d + 3) (v := p ++ [left]) (x3 := x_mx (x_W L K (p ++ [left])) 12 0 0) h01 hk4 hw1 hv K.length 0 (by omega)
    have c' : y_R sp ph (d + 3) 290 113 [some (y_bo 11 0 49), none, none, some (y_bi (x_mx (x_W L K (p ++ [left])) 12 0 0)), some (y_bi 0), some (y_bi 0), none, none] [] (y_sI m 103 p.length (left : Int)) = _ := c
    have e15 : y_mI m 49 15 = (K.length : Int) := h0.2.2.1
    have es : (x_wv 0 left p).foldl (x_sp L K) o = x_sp L K o (p ++ [left]) := rfl
    rw [es, Nat.add_zero, y_C_290, y_E_290_0, e15, if_neg (fun r => r (by rw [z_w_id (by omega) (by omega), z_w_id (by omega) (by omega)]; omega)), e_g ⟨by omega, by omega⟩, Int.toNat_natCast, b', y_E_290_110, c', y_E_290_143]
    generalize y_sI m 103 p.length (left : Int) = m1 at *
    unfold x_sp
    generalize x_mx (x_W L K (p ++ [left])) 12 0 0 = x at *
    generalize x_dg (p ++ [left]) = g at *
    have put : x_wo (y_sI (y_sI m1 49 45 x) 49 46 g) 49 45 46 (-1) (some (x, g)) := ⟨by rw [e_II' (by omega), e_II], e_II, mb.1, mb.2⟩
    have FP : q_F (x_Fr p.length) m1 (y_sI (y_sI m1 49 45 x) 49 46 g) := q_F_trans (q_F_sI (by unfold x_Fr; omega)) (q_F_sI (by unfold x_Fr; omega))
    cases o with
    | none =>
      have e1 : y_mI m1 49 45 = -1 := ho1
      rw [e1, if_pos (by decide), y_E_290_160]
      exact ⟨_, rfl, q_F_trans F1 FP, put⟩
    | some b0 =>
      obtain ⟨q1, q2, q3, q4⟩ := ho1
      rw [q1, if_neg (by rw [z_w_id (by omega) (by omega)]; omega)]
      by_cases c : x < b0.1
      · rw [if_pos (by rw [z_w_id (by omega) (by omega), z_w_id (by omega) (by omega)]; omega), y_E_290_160]
        refine ⟨_, rfl, q_F_trans F1 FP, ?_⟩
        show x_wo _ 49 45 46 (-1) (if x < b0.1 then _ else _)
        rw [if_pos c]
        exact put
      · rw [if_neg (by rw [z_w_id (by omega) (by omega), z_w_id (by omega) (by omega)]; omega)]
        refine ⟨m1, rfl, F1, ?_⟩
        show x_wo m1 49 45 46 (-1) (if x < b0.1 then _ else _)
        rw [if_neg c]
        exact ⟨q1, q2, q3, q4⟩
  | succ k ih =>
    intro left p o m hp hl hp12 h0 hw ho
    have e15 : y_mI m 49 15 = (K.length : Int) := h0.2.2.1
    have loop : ∀ (c g : Nat) (o : Option (Int × Int)) (m : y_m), g + c = left + 1 → x_R0 m L R K → x_wk m p → x_wo m 49 45 46 (-1) o → ∃ m', y_R sp ph (d + 4 + k) 290 174 [some (y_bo 11 0 49), some (y_bi (p.length : Int)), some (y_bi (left : Int)), some (y_bi (g : Int)), none, none, none, none] [] m = y_rV m' ∧ q_F (x_Fr p.length) m m' ∧ x_wo m' 49 45 46 (-1) (((List.range' g c).flatMap (fun g => x_wv k (left - g) (p ++ [g]))).foldl (x_sp L K) o) := by
      intro c
      induction c with
      | zero =>
        intro g o m hg h0 hw ho
        refine ⟨m, ?_, q_F_refl, ho⟩
        rw [y_E_290_174, if_pos (by rw [z_w_id (by omega) (by omega), z_w_id (by omega) (by omega)]; omega), y_E_290_202]
      | succ c ihc =>
        intro g o m hg h0 hw ho
        rw [List.range'_succ, List.flatMap_cons, List.foldl_append]
        have F1 : q_F (x_Fr p.length) m (y_sI m 103 p.length (g : Int)) := q_F_sI (by unfold x_Fr; omega)
        have l1 : (p ++ [g]).length = p.length + 1 := by simp
        obtain ⟨m2, b1, b2, b3⟩ := ih (left - g) (p ++ [g]) o (y_sI m 103 p.length (g : Int)) (by omega) (by omega) (fun x hx => by
          rcases List.mem_append.mp hx with q | q
          · exact hp12 x q
          · rw [List.mem_singleton] at q; omega) (x_R0_F h0 hk4 F1 (fun a k q => by unfold x_Fr at *; omega)) (x_wk_add hw) (x_wo_F ho (q_F_sI (S := fun a _ => a = 103) rfl) (by omega) (by omega))
        rw [l1] at b1 b2
        have F2 : q_F (x_Fr p.length) m m2 := q_F_trans F1 (q_F_mono b2 (fun a k q => by unfold x_Fr at *; omega))
        obtain ⟨m4, d1, d2, d3⟩ := ihc (g + 1) _ m2 (by omega) (x_R0_F h0 hk4 F2 (fun a k q => by unfold x_Fr at *; omega)) (x_wk_F hw F2 (fun a k q => q) (Nat.le_refl _)) b3
        refine ⟨m4, ?_, q_F_trans F2 d2, d3⟩
        rw [y_E_290_174, if_neg (by rw [z_w_id (by omega) (by omega), z_w_id (by omega) (by omega)]; omega), e_g ⟨by omega, by omega⟩, Int.toNat_natCast, show (p.length : Int) + 1 = ((p.length + 1 : Nat) : Int) by omega, show (left : Int) - (g : Int) = ((left - g : Nat) : Int) by omega, b1, e_bV, show (g : Int) + 1 = ((g + 1 : Nat) : Int) by omega]
        exact d1
    obtain ⟨m2, r1, r2, r3⟩ := loop (left + 1) 0 o m (by omega) h0 hw ho
    refine ⟨m2, ?_, r2, r3⟩
    have r1' : y_R sp ph (d + 4 + k) 290 174 [some (y_bo 11 0 49), some (y_bi (p.length : Int)), some (y_bi (left : Int)), some (y_bi 0), none, none, none, none] [] m = y_rV m2 := r1
    rw [show d + 4 + (k + 1) = (d + 4 + k) + 1 by omega, y_C_290, y_E_290_0, e15, if_pos (by rw [z_w_id (by omega) (by omega), z_w_id (by omega) (by omega)]; omega), y_E_290_172]
    exact r1'
theorem t_291 {x y : Nat} (hC : u_KR m K) (hk : u_Kk L R K) (hL : y_mI m 52 0 = (L : Int)) (hR : y_mI m 52 1 = (R : Int)) (h6 : L ≤ 6) (hR6 : R ≤ 6) (hn : K ≠ []) (hx1 : 1 ≤ x) (hx : x ≤ 12) (hy : y ≤ 1) : ∃ m' b, y_V sp ph (d + 10) 291 [y_bo 11 0 49, y_bi (x : Int), y_bi (y : Int)] m = y_rI (if y = 0 then b.1 else b.2) m' ∧ x_bw L K x = some b ∧ q_F (fun a k => (a = 49 ∧ (k = 0 ∨ k = 45 ∨ k = 46)) ∨ a = 103) m m' ∧ y_mI m' 49 0 = 0 := by
  have hl : 0 < K.length := List.length_pos_iff.mpr hn
  have hk4 := hk.1
  have l291 := l_291 (sp := sp) (ph := ph) (d := d + 8) (x := (x : Int)) (y := (y : Int)) hC hk4 (by omega) (by omega) (by omega) (by omega)
  have F1 : q_F (fun a k => (a = 49 ∧ (k = 0 ∨ k = 45 ∨ k = 46)) ∨ a = 103) m (y_sI (y_sI m 49 0 0) 49 45 (-1)) := q_F_trans (q_F_sI (by omega)) (q_F_sI (by omega))
  have h01 : x_R0 (y_sI (y_sI m 49 0 0) 49 45 (-1)) L R K := ⟨by rw [q_F_I F1 52 0 (by omega)]; exact hL, by rw [q_F_I F1 52 1 (by omega)]; exact hR, u_KR_F hC hk4 (S := fun a k => a = 49 ∧ (k = 0 ∨ k = 45)) (q_F_trans (q_F_sI (by omega)) (q_F_sI (by omega))) (by omega) (fun a k q => by omega)⟩
  obtain ⟨m2, b1, b2, b3⟩ := l_290 (sp := sp) (ph := ph) (d := d + 5 - (K.length - 1)) hk h6 hR6 (K.length - 1) x [] none (y_sI (y_sI m 49 0 0) 49 45 (-1)) (by show 0 + (K.length - 1 + 1) = K.length; omega) hx (fun z hz => by cases hz) h01 (fun j hj => absurd hj (Nat.not_lt_zero j)) (by show y_mI _ 49 45 = -1; rw [e_II])
  rw [show d + 5 - (K.length - 1) + 4 + (K.length - 1) = d + 9 by omega] at b1
  have b1' : y_V sp ph (d + 9) 290 [y_bo 11 0 49, y_bi 0, y_bi (x : Int)] (y_sI (y_sI m 49 0 0) 49 45 (-1)) = y_rV m2 := b1
  obtain ⟨b, eb⟩ := x_bw_some (L := L) (K := K) x
  have b3' : x_wo m2 49 45 46 (-1) (x_bw L K x) := b3
  rw [eb] at b3'
  obtain ⟨q1, q2, -⟩ := b3'
  refine ⟨m2, b, ?_, eb, q_F_trans F1 (q_F_mono b2 (fun a k q => by unfold x_Fr at q; omega)), by rw [q_F_I b2 49 0 (by unfold x_Fr; omega), e_II' (by omega), e_II]⟩
  rw [l291, if_pos ⟨⟨by omega, by omega⟩, by omega, by omega⟩, if_neg hn, y_E_291_48, b1', e_bV]
  rcases (show y = 0 ∨ y = 1 by omega) with rfl | rfl
  · rw [if_neg (by decide), y_E_291_74, q1, if_pos rfl]
  · rw [if_pos (by decide), y_E_291_70, y_E_291_74, q2, if_neg (by decide)]
end Weeks
