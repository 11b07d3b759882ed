/-! ===== alike, itself: the reference ===== -/
def u_xcp (a b : List Nat) : Nat → Nat → Int
  | 0, _ => 0
  | k + 1, i => if a.getD i 0 = b.getD i 0 then u_xcp a b k (i + 1) else if a.getD i 0 ≤ b.getD i 0 then 1 else -1
def u_im (L : Nat) (w : List Nat) (b1 b2 : Bool) : List Nat := q_own (w.map (u_ih L b1 b2))
def u_ci (L : Nat) (w : List Nat) (b1 b2 : Bool) : Int := u_xcp (u_im L w b1 b2) w w.length 0
def u_bn (b1 b2 : Bool) : Nat := (if b1 then 1 else 0) + (if b2 then 2 else 0)
section Imager
variable {sp : Nat → Nat} {ph : Bool} {d : Nat} {m m' : y_m} {L R A B t lw X n : Nat} {w : List Nat} {b1 b2 : Bool}
theorem t_267 {h : Nat} (hL : y_mI m 52 0 = (L : Int)) (h6 : L ≤ 6) (hh : h < L + L) : y_V sp ph (d + 3) 267 [y_bo 11 0 49, y_bi (h : Int), y_bi (u_bn b1 b2 : Int)] m = y_rI (u_ih L b1 b2 h : Int) m := by
  have t210 := t_210 (sp := sp) (ph := ph) (d := d) (m := m) (L := L) (x := h) hL h6 (by omega)
  have t209 := t_209 (sp := sp) (ph := ph) (d := d + 1) (m := m) (L := L) (x := h) hL h6 (by omega)
  have hr : r_row L h < L := by unfold r_row; split <;> omega
  have fin : ∀ z : Int, y_R sp ph (d + 2) 267 29 [some (y_bo 11 0 49), some (y_bi (h : Int)), some (y_bi (u_bn b1 b2 : Int)), none] [y_bi z] m = y_rI ((if (decide (h < L) != b2) = true then 0 else (L : Int)) + z) m := fun z => by
    rw [y_E_267_29, t209, e_bI]
    cases b2
    · rw [if_neg (by cases b1 <;> decide), y_E_267_46]
      cases decide (h < L)
      · rw [if_pos (by decide), y_E_267_53, y_E_267_61, hL, if_neg (by decide)]
      · rw [if_neg (by decide), y_E_267_61, if_pos (by decide), Int.zero_add]
    · rw [if_pos (by cases b1 <;> decide), y_E_267_45, y_E_267_46]
      cases decide (h < L)
      · rw [if_neg (by decide), y_E_267_61, if_pos (by decide), Int.zero_add]
      · rw [if_pos (by decide), y_E_267_53, y_E_267_61, hL, if_neg (by decide)]
  rw [y_C_267, y_E_267_0]
  unfold u_ih
  cases b1
  · rw [if_pos (by cases b2 <;> decide), y_E_267_24, t210, e_bI, fin]
    refine congrArg (fun z => y_rI z m) ?_
    rw [if_neg (show ¬ (false = true) by decide)]
    split <;> omega
  · rw [if_neg (by cases b2 <;> decide), t210, e_bI, hL, fin]
    refine congrArg (fun z => y_rI z m) ?_
    rw [if_pos rfl]
    split <;> omega
theorem l_268a (hL : y_mI m 52 0 = (L : Int)) (h6 : L ≤ 6) (hb : ∀ h ∈ w, h < L + L) (hl : w.length ≤ 12) : ∀ (k i : Nat) (m : y_m), i + k = w.length → y_mI m 52 0 = (L : Int) → u_xwr m w → (∀ j, j < i → y_mI m 101 j = (((w.map (u_ih L b1 b2)).getD j 0 : Nat) : Int)) → ∃ m', y_R sp ph (d + 3) 268 3 [some (y_bo 11 0 49), some (y_bo 100 12 102), some (y_bi (w.length : Int)), some (y_bi (u_bn b1 b2 : Int)), some (y_bi (i : Int))] [] m = y_R sp ph (d + 3) 268 31 [some (y_bo 11 0 49), some (y_bo 100 12 102), some (y_bi (w.length : Int)), none, none] [] m' ∧ q_F (fun a _ => a = 101) m m' ∧ ∀ j, j < w.length → y_mI m' 101 j = (((w.map (u_ih L b1 b2)).getD j 0 : Nat) : Int) := by
  intro k
  induction k with
  | zero =>
    intro i m hi hL hw h101
    exact ⟨m, by rw [y_E_268_3, if_pos (by rw [z_w_id (by omega) (by omega), z_w_id (by omega) (by omega)]; omega)], q_F_refl, fun j hj => h101 j (by omega)⟩
  | succ k ih =>
    intro i m hi hL hw h101
    have gi : w.getD i 0 < L + L := by rw [List.getD_eq_getElem?_getD, List.getElem?_eq_getElem (by omega)]; exact hb _ (List.getElem_mem _)
    have t267 := t_267 (sp := sp) (ph := ph) (d := d) (m := m) (b1 := b1) (b2 := b2) hL h6 gi
    have F1 : q_F (fun a _ => a = 101) m (y_sI m 101 i (u_ih L b1 b2 (w.getD i 0) : Int)) := q_F_sI rfl
    have eg : (w.map (u_ih L b1 b2)).getD i 0 = u_ih L b1 b2 (w.getD i 0) := by
      rw [List.getD_eq_getElem?_getD, List.getD_eq_getElem?_getD, List.getElem?_eq_getElem (by rw [List.length_map]; omega), List.getElem?_eq_getElem (by omega)]
      exact List.getElem_map _
    obtain ⟨m2, r1, r2, r3⟩ := ih (i + 1) (y_sI m 101 i (u_ih L b1 b2 (w.getD i 0) : Int)) (by omega) (by rw [e_II' (by omega)]; exact hL) (fun j hj => by rw [e_II' (by omega)]; exact hw j hj) (fun j hj => by
      by_cases c : j = i
      · subst c; rw [e_II, eg]
      · rw [e_II' (by omega)]; exact h101 j (by omega))
    refine ⟨m2, ?_, q_F_trans F1 r2, r3⟩
    rw [y_E_268_3, if_neg (by rw [z_w_id (by omega) (by omega), z_w_id (by omega) (by omega)]; omega), e_g ⟨by omega, by omega⟩, Int.toNat_natCast, hw i (by omega), t267, e_bI, e_g ⟨by omega, by omega⟩, show (i : Int) + 1 = ((i + 1 : Nat) : Int) by omega]
    exact r1
theorem l_268b {a : List Nat} (hl : w.length ≤ 12) (la : a.length = w.length) (ha : ∀ x ∈ a, x < 12) (hb : ∀ x ∈ w, x < 12) (hw : u_xwr m w) (h98 : ∀ j, j < w.length → y_mI m 98 j = ((a.getD j 0 : Nat) : Int)) : ∀ (k i : Nat), i + k = w.length → y_R sp ph d 268 43 [some (y_bo 11 0 49), some (y_bo 100 12 102), some (y_bi (w.length : Int)), none, some (y_bi (i : Int))] [] m = y_rI (u_xcp a w k i) m := by
  intro k
  induction k with
  | zero =>
    intro i hi
    rw [y_E_268_43, if_pos (by rw [z_w_id (by omega) (by omega), z_w_id (by omega) (by omega)]; omega), y_E_268_89]; rfl
  | succ k ih =>
    intro i hi
    have ga : a.getD i 0 < 12 := by rw [List.getD_eq_getElem?_getD, List.getElem?_eq_getElem (by omega)]; exact ha _ (List.getElem_mem _)
    have gb : w.getD i 0 < 12 := by rw [List.getD_eq_getElem?_getD, List.getElem?_eq_getElem (by omega)]; exact hb _ (List.getElem_mem _)
    rw [y_E_268_43, if_neg (by rw [z_w_id (by omega) (by omega), z_w_id (by omega) (by omega)]; omega), e_g ⟨by omega, by omega⟩, e_g ⟨by omega, by omega⟩, Int.toNat_natCast, h98 i (by omega), hw i (by omega), u_xcp, z_w_id (by omega) (by omega), z_w_id (by omega) (by omega)]
    by_cases q : a.getD i 0 = w.getD i 0
    · rw [if_pos (by omega), if_pos q, y_E_268_83, show (i : Int) + 1 = ((i + 1 : Nat) : Int) by omega]
      exact ih (i + 1) (by omega)
    · rw [if_neg (by omega), if_neg q, e_g ⟨by omega, by omega⟩, e_g ⟨by omega, by omega⟩]
      by_cases q2 : a.getD i 0 ≤ w.getD i 0
      · rw [if_pos (by omega), if_pos q2, y_E_268_81, y_E_268_82]
      · rw [if_neg (by omega), if_neg q2, y_E_268_82]
theorem t_268 (hL : y_mI m 52 0 = (L : Int)) (h6 : L ≤ 6) (hn : w ≠ []) (hb : ∀ h ∈ w, h < L + L) (hl : w.length ≤ 12) (hw : u_xwr m w) : ∃ m', y_V sp ph (d + 4) 268 [y_bo 11 0 49, y_bo 100 12 102, y_bi (w.length : Int), y_bi (u_bn b1 b2 : Int)] m = y_rI (u_ci L w b1 b2) m' ∧ q_F (fun a _ => a = 98 ∨ a = 101) m m' := by
  obtain ⟨m1, r1, r2, r3⟩ := l_268a (sp := sp) (ph := ph) (d := d) (m := m) (b1 := b1) (b2 := b2) hL h6 hb hl w.length 0 m (by omega) hL hw (fun j hj => absurd hj (Nat.not_lt_zero j))
  have r1' : y_R sp ph (d + 3) 268 3 [some (y_bo 11 0 49), some (y_bo 100 12 102), some (y_bi (w.length : Int)), some (y_bi (u_bn b1 b2 : Int)), some (y_bi 0)] [] m = _ := r1
  have hmn : w.map (u_ih L b1 b2) ≠ [] := fun q => hn (List.map_eq_nil_iff.mp q)
  have hml : (w.map (u_ih L b1 b2)).length = w.length := List.length_map _
  have hmb : ∀ h ∈ w.map (u_ih L b1 b2), h < 12 := fun h hh => by
    rw [List.mem_map] at hh
    obtain ⟨x, hx, rfl⟩ := hh
    have := u_ih_lt (b1 := b1) (b2 := b2) (hb x hx)
    omega
  obtain ⟨m2, a1, a2, a3⟩ := t_247 (sp := sp) (ph := ph) (d := d + 2) (m := m1) (a := 101) (w := w.map (u_ih L b1 b2)) (by omega) hmn (by omega) hmb (fun i hi => r3 i (by omega))
  rw [hml] at a1 a3
  have lb := l_268b (sp := sp) (ph := ph) (d := d + 3) (m := m2) (w := w) (a := u_im L w b1 b2) hl (by unfold u_im; rw [q_own_len]; exact hml) (q_own_lt hmn hmb) (fun x hx => by have := hb x hx; omega) (fun i hi => by rw [q_F_I a2 102 i (by omega), q_F_I r2 102 i (by omega)]; exact hw i hi) (fun j hj => by unfold u_im; rw [q_own_get (by omega)]; exact a3 j hj) w.length 0 (by omega)
  refine ⟨m2, ?_, q_F_trans (q_F_mono r2 (fun a k q => Or.inr q)) (q_F_mono a2 (fun a k q => Or.inl q))⟩
  rw [y_C_268, y_E_268_0, r1', y_E_268_31, a1, e_bV]
  exact lb
theorem t_270 (hc : m_Ch m L R A B lw t) : y_V sp ph (d + 1) 270 [y_bo 11 0 49] m = y_rI (n_b (decide (L = R ∧ t = 0))) m := by
  obtain ⟨c0, c1, c2, c3, c4, c6, c7, c8, c9, cB⟩ := hc
  have h1 := cB.1
  have h2 := cB.2.1
  rw [y_C_270, y_E_270_0, c0, c1, c6, z_w_id (by omega) (by omega), z_w_id (by omega) (by omega), z_w_id (by omega) (by omega)]
  by_cases c : L = R
  · rw [if_neg (by omega)]
    by_cases ct : t = 0
    · rw [if_neg (by omega), y_E_270_30, e_g (by omega), decide_eq_true ⟨c, ct⟩]; rfl
    · rw [if_pos (by omega), y_E_270_29, y_E_270_30, e_g (by omega), decide_eq_false (fun q => ct q.2)]; rfl
  · rw [if_pos (by omega), y_E_270_29, y_E_270_30, e_g (by omega), decide_eq_false (fun q => c q.1)]; rfl
/-- itself -/
def u_it (L : Nat) (w : List Nat) : Int := n_b (decide (u_ci L (q_own w) false false = 0)) + n_b (decide (u_ci L (q_own w) true false = 0)) + n_b (decide (u_ci L (q_own w) false true = 0)) + n_b (decide (u_ci L (q_own w) true true = 0))
theorem u_xcp_b {a b : List Nat} : ∀ (k i : Nat), u_xcp a b k i = 0 ∨ u_xcp a b k i = 1 ∨ u_xcp a b k i = -1
  | 0, _ => Or.inl rfl
  | k + 1, i => by
    rw [u_xcp]
    split
    · exact u_xcp_b k (i + 1)
    · split
      · exact Or.inr (Or.inl rfl)
      · exact Or.inr (Or.inr rfl)
theorem l_272a (hl : w.length ≤ 12) : ∀ (k i : Nat) (m : y_m), i + k = w.length → y_mI m 49 13 = (w.length : Int) → (∀ j, j < w.length → y_mI m 98 j = ((w.getD j 0 : Nat) : Int)) → (∀ j, j < i → y_mI m 102 j = ((w.getD j 0 : Nat) : Int)) → ∃ m', y_R sp ph d 272 39 [some (y_bo 11 0 49), some (y_bi 0), some (y_bi (i : Int))] [] m = y_R sp ph d 272 65 [some (y_bo 11 0 49), some (y_bi 0), none] [] m' ∧ q_F (fun a _ => a = 102) m m' ∧ u_xwr m' w := by
  intro k
  induction k with
  | zero =>
    intro i m hi e13 h98 h102
    exact ⟨m, by rw [y_E_272_39, e13, if_pos (by rw [z_w_id (by omega) (by omega), z_w_id (by omega) (by omega)]; omega)], q_F_refl, fun j hj => h102 j (by omega)⟩
  | succ k ih =>
    intro i m hi e13 h98 h102
    have e := h98 i (by omega)
    have F1 : q_F (fun a _ => a = 102) m (y_sI m 102 i (y_mI m 98 i)) := q_F_sI rfl
    obtain ⟨m2, r1, r2, r3⟩ := ih (i + 1) (y_sI m 102 i (y_mI m 98 i)) (by omega) (by rw [e_II' (by omega)]; exact e13) (fun j hj => by rw [e_II' (by omega)]; exact h98 j hj) (fun j hj => by
      by_cases c : j = i
      · subst c; rw [e_II, e]
      · rw [e_II' (by omega)]; exact h102 j (by omega))
    refine ⟨m2, ?_, q_F_trans F1 r2, r3⟩
    rw [y_E_272_39, e13, if_neg (by rw [z_w_id (by omega) (by omega), z_w_id (by omega) (by omega)]; omega), e_g ⟨by omega, by omega⟩, e_g ⟨by omega, by omega⟩, Int.toNat_natCast, show (i : Int) + 1 = ((i + 1 : Nat) : Int) by omega]
    exact r1
theorem t_272n (hV : q_V m []) : y_V sp ph (d + 3) 272 [y_bo 11 0 49] m = y_rI 0 (y_sI (y_sI m 49 0 0) 49 0 1) := by
  have hV' : q_V (y_sI m 49 0 0) [] := q_V_F hV (q_F_sI (S := fun a k => a = 49 ∧ k = 0) ⟨rfl, rfl⟩) (fun a k r => by omega)
  have t230 := t_230b (sp := sp) (ph := ph) (d := d) (m := y_sI m 49 0 0) e_II hV'
  rw [y_C_272, y_E_272_0, t230, e_bI, if_neg (by decide)]
theorem t_272 (hU : u_R m L R A B t lw X w) (hn : w ≠ []) (hb : ∀ h ∈ w, h < L + R) : ∃ m', y_V sp ph (d + 6) 272 [y_bo 11 0 49] m = y_rI (if L = R ∧ t = 0 then u_it L w else -1) m' ∧ q_F (fun a k => a = 98 ∨ a = 101 ∨ a = 102 ∨ (a = 49 ∧ k = 0)) m m' ∧ y_mI m' 49 0 = 0 := by
  obtain ⟨hc, -, -, hV⟩ := hU
  have F0 : q_F (fun a k => a = 49 ∧ k = 0) m (y_sI m 49 0 0) := q_F_sI ⟨rfl, rfl⟩
  have hc0 := m_Ch_F hc F0 (fun a k q => by unfold q_wr; omega)
  have hV0 := q_V_F hV F0 (fun a k q => by omega)
  have e0 : y_mI (y_sI m 49 0 0) 49 0 = 0 := e_II
  have t230 := t_230a (sp := sp) (ph := ph) (d := d + 3) (m := y_sI m 49 0 0) e0 hV0 hn
  have t270 := t_270 (sp := sp) (ph := ph) (d := d + 4) hc0
  have h1 := hc0.2.2.2.2.2.2.2.2.2.1
  have h2 := hc0.2.2.2.2.2.2.2.2.2.2.1
  have hl := hV.2.1
  have F0' : q_F (fun a k => a = 98 ∨ a = 101 ∨ a = 102 ∨ (a = 49 ∧ k = 0)) m (y_sI m 49 0 0) := q_F_mono F0 (fun a k q => by omega)
  rw [y_C_272, y_E_272_0, t230, e_bI, if_pos (by decide), y_E_272_14, t270, e_bI]
  generalize y_sI m 49 0 0 = m0 at *
  by_cases c : L = R ∧ t = 0
  · have hb12 : ∀ h ∈ w, h < 12 := fun h hh => by have := hb h hh; omega
    obtain ⟨m1, a1, a2, a3⟩ := t_247 (sp := sp) (ph := ph) (d := d + 4) (m := m0) (a := 54) (w := w) (by omega) hn hl hb12 hV0.2.2
    have lo : (q_own w).length = w.length := q_own_len w
    have e13 : y_mI m1 49 13 = (w.length : Int) := by rw [q_F_I a2 49 13 (by omega)]; exact hV0.1
    obtain ⟨m2, r1, r2, r3⟩ := l_272a (sp := sp) (ph := ph) (d := d + 5) (w := q_own w) (by omega) (q_own w).length 0 m1 (by omega) (by rw [lo]; exact e13) (fun j hj => by rw [q_own_get (by omega)]; exact a3 j (by omega)) (fun j hj => absurd hj (Nat.not_lt_zero j))
    have r1' : y_R sp ph (d + 5) 272 39 [some (y_bo 11 0 49), some (y_bi 0), some (y_bi 0)] [] m1 = _ := r1
    have on : q_own w ≠ [] := fun q => by rw [q] at lo; exact hn (List.length_eq_zero_iff.mp lo.symm)
    have ob : ∀ h ∈ q_own w, h < L + L := fun h hh => by have := hb h (q_own_mem.mp hh); omega
    have F2 : q_F (fun a k => a = 98 ∨ a = 101 ∨ a = 102) m0 m2 := q_F_trans (q_F_mono a2 (fun a k q => by omega)) (q_F_mono r2 (fun a k q => by omega))
    have step : ∀ (b1 b2 : Bool) (v : Int) (M : y_m), q_F (fun a k => a = 98 ∨ a = 101 ∨ a = 102) m0 M → u_xwr M (q_own w) → ∃ M', y_R sp ph (d + 5) 272 67 [some (y_bo 11 0 49), some (y_bi v), some (y_bi (u_bn b1 b2 : Int))] [] M = y_R sp ph (d + 5) 272 67 [some (y_bo 11 0 49), some (y_bi (v + n_b (decide (u_ci L (q_own w) b1 b2 = 0)))), some (y_bi ((u_bn b1 b2 : Int) + 1))] [] M' ∧ q_F (fun a k => a = 98 ∨ a = 101 ∨ a = 102) m0 M' ∧ u_xwr M' (q_own w) := fun b1 b2 v M hM hWr => by
      have eL : y_mI M 52 0 = (L : Int) := by rw [q_F_I hM 52 0 (by omega)]; exact hc0.1
      have eM : y_mI M 49 13 = ((q_own w).length : Int) := by rw [q_F_I hM 49 13 (by omega), lo]; exact hV0.1
      obtain ⟨M', g1, g2⟩ := t_268 (sp := sp) (ph := ph) (d := d + 1) (m := M) (b1 := b1) (b2 := b2) eL h1 on ob (by omega) hWr
      refine ⟨M', ?_, q_F_trans hM (q_F_mono g2 (fun a k q => by omega)), fun i hi => by rw [q_F_I g2 102 i (by omega)]; exact hWr i hi⟩
      have bnd : u_bn b1 b2 ≤ 3 := by unfold u_bn; cases b1 <;> cases b2 <;> decide
      have cb := u_xcp_b (a := u_im L (q_own w) b1 b2) (b := q_own w) (q_own w).length 0
      have cb' : u_ci L (q_own w) b1 b2 = 0 ∨ u_ci L (q_own w) b1 b2 = 1 ∨ u_ci L (q_own w) b1 b2 = -1 := cb
      rw [y_E_272_67, if_neg (by rw [z_w_id (by omega) (by omega)]; omega), eM, g1, e_bI]
      by_cases q : u_ci L (q_own w) b1 b2 = 0
      · rw [if_neg (by rw [q]; decide), y_E_272_94, decide_eq_true q]; rfl
      · rw [if_pos (by rw [z_w_id (by omega) (by omega)]; exact q), y_E_272_93, y_E_272_94, decide_eq_false q]; rfl
    obtain ⟨M1, p1, p2, p3⟩ := step false false 0 m2 F2 r3
    obtain ⟨M2, p4, p5, p6⟩ := step true false (0 + n_b (decide (u_ci L (q_own w) false false = 0))) M1 p2 p3
    obtain ⟨M3, p7, p8, p9⟩ := step false true _ M2 p5 p6
    obtain ⟨M4, p10, p11, p12⟩ := step true true _ M3 p8 p9
    have p1' : y_R sp ph (d + 5) 272 67 [some (y_bo 11 0 49), some (y_bi 0), some (y_bi 0)] [] m2 = _ := p1
    rw [decide_eq_true c, if_pos (by decide), y_E_272_23, hV0.1, a1, e_bV, r1', y_E_272_65, p1']
    refine ⟨M4, ?_, q_F_trans F0' (q_F_mono p11 (fun a k q => by omega)), by rw [q_F_I p11 49 0 (by omega)]; exact e0⟩
    rw [show ((u_bn false false : Int) + 1) = (u_bn true false : Int) from rfl, p4, show ((u_bn true false : Int) + 1) = (u_bn false true : Int) from rfl, p7, show ((u_bn false true : Int) + 1) = (u_bn true true : Int) from rfl, p10, show ((u_bn true true : Int) + 1) = 4 from rfl, y_E_272_67, if_pos (by decide), y_E_272_102, if_pos c]
    refine congrArg (fun z => y_rI z M4) ?_
    unfold u_it
    omega
  · rw [decide_eq_false c, if_neg (by decide), if_neg c]
    exact ⟨m0, rfl, F0', e0⟩
end Imager
