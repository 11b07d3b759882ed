/-! ===== alike: the reference ===== -/
def u_pl (n : Nat) : Nat → Nat → List Nat → List (List Nat)
  | 0, _, w => [w]
  | k + 1, used, w => (List.range' 1 (n - 1)).flatMap (fun h => if used.testBit h then [] else u_pl n k (used ||| 2 ^ h) (w ++ [h]))
/-- a row that counts -/
def u_lf (L lw : Nat) (w : List Nat) : Bool := decide (w.getD 1 0 ≤ u_wl w) && u_la L lw w && decide (u_ci L w true false ≤ 0) && decide (u_ci L w false true ≤ 0) && decide (u_ci L w true true ≤ 0)
def u_tF (p a k : Nat) : Prop := a = 98 ∨ a = 101 ∨ (a = 49 ∧ k = 42) ∨ (a = 102 ∧ p ≤ k)
section Aliker
variable {sp : Nat → Nat} {ph : Bool} {d : Nat} {m m' : y_m} {L R A B t lw X n : Nat} {w : List Nat}
theorem l_269a (hw : u_xwr m w) (hn : w ≠ []) (hl : w.length ≤ 12) (hb : ∀ x ∈ w, x < 12) (hL : y_mI m 52 0 = (L : Int)) (h6 : L ≤ 6) (hlw : y_mI m 52 4 = (lw : Int)) (h2 : lw ≤ 2) : ∀ (k i : Nat), i + k = w.length → y_R sp ph (d + 2) 269 28 [some (y_bo 11 0 49), none, some (y_bi (w.length : Int)), some (y_bi (i : Int))] [] m = if u_lb L lw w k i then y_R sp ph (d + 2) 269 89 [some (y_bo 11 0 49), none, some (y_bi (w.length : Int)), none] [] m else y_rV m := by
  have hlen : 0 < w.length := List.length_pos_iff.mpr hn
  intro k
  induction k with
  | zero =>
    intro i hi
    rw [y_E_269_28, if_pos (by rw [z_w_id (by omega) (by omega), z_w_id (by omega) (by omega)]; omega), u_lb, if_pos rfl]
  | succ k ih =>
    intro i hi
    have r1 : z_irem ((i : Int) + (w.length : Int) - 1) (w.length : Int) = ((i : Int) + (w.length : Int) - 1) % (w.length : Int) := n_irem (by omega) (by omega) (by omega) (by omega)
    have r2 : z_irem ((i : Int) + 1) (w.length : Int) = ((i : Int) + 1) % (w.length : Int) := n_irem (by omega) (by omega) (by omega) (by omega)
    have m1 := Int.emod_nonneg ((i : Int) + (w.length : Int) - 1) (show (w.length : Int) ≠ 0 by omega)
    have m2 := Int.emod_lt_of_pos ((i : Int) + (w.length : Int) - 1) (show (0 : Int) < (w.length : Int) by omega)
    have m3 := Int.emod_nonneg ((i : Int) + 1) (show (w.length : Int) ≠ 0 by omega)
    have m4 := Int.emod_lt_of_pos ((i : Int) + 1) (show (0 : Int) < (w.length : Int) by omega)
    have g1 : y_mI m 102 (((i : Int) + (w.length : Int) - 1) % (w.length : Int)).toNat = (q_at w ((i : Int) - 1) : Nat) := by rw [q_at_pred (i : Int) hn]; exact hw _ (by omega)
    have g2 : y_mI m 102 (((i : Int) + 1) % (w.length : Int)).toNat = (q_at w ((i : Int) + 1) : Nat) := q_at_get hw hn _
    have g0 : y_mI m 102 i = ((q_at w (i : Int) : Nat) : Int) := by rw [q_at_nat (by omega)]; exact hw i (by omega)
    have q1 := hb _ (q_at_mem (w := w) (i := (i : Int) - 1) hn)
    have q2 := hb _ (q_at_mem (w := w) (i := (i : Int)) hn)
    have q3 := hb _ (q_at_mem (w := w) (i := (i : Int) + 1) hn)
    have t211a := t_211 (sp := sp) (ph := ph) (d := d) (m := m) (x := q_at w ((i : Int) - 1)) (y := q_at w (i : Int)) hL h6 (by omega) (by omega)
    have t211b := t_211 (sp := sp) (ph := ph) (d := d) (m := m) (x := q_at w (i : Int)) (y := q_at w ((i : Int) + 1)) hL h6 (by omega) (by omega)
    have ea : r_x L (q_at w ((i : Int) - 1)) (q_at w (i : Int)) = q_ac L w ((i : Int) - 1) := by
      unfold q_ac
      rw [show (i : Int) - 1 + 1 = (i : Int) by omega]
    have eb : r_x L (q_at w (i : Int)) (q_at w ((i : Int) + 1)) = q_ac L w (i : Int) := rfl
    rw [ea] at t211a
    rw [eb] at t211b
    have t227 := t_227 (sp := sp) (ph := ph) (d := d + 1) (m := m) (lw := lw) (i := q_ac L w ((i : Int) - 1)) (o := q_ac L w (i : Int)) hlw h2
    have zl : z_w (w.length : Int) ≠ 0 := by rw [z_w_id (by omega) (by omega)]; omega
    rw [y_E_269_28, if_neg (by rw [z_w_id (by omega) (by omega), z_w_id (by omega) (by omega)]; omega), e_g zl, r1, e_g ⟨m1, by omega⟩, e_g ⟨by omega, by omega⟩, Int.toNat_natCast, g1, g0, t211a, e_bI, e_g ⟨by omega, by omega⟩, e_g zl, r2, e_g ⟨m3, by omega⟩, g0, g2, t211b, e_bI, t227, e_bI, u_lb]
    cases r_may lw (q_ac L w ((i : Int) - 1)) (q_ac L w (i : Int))
    · rw [if_neg (by decide), Bool.false_and, if_neg (by decide)]
    · rw [if_pos (by decide), Bool.true_and, y_E_269_83, show (i : Int) + 1 = ((i + 1 : Nat) : Int) by omega]
      exact ih (i + 1) (by omega)
theorem u_xwr_F {p : Nat} (h : u_xwr m w) (hF : q_F (u_tF p) m m') (hp : w.length ≤ p) : u_xwr m' w := fun i hi => by rw [q_F_I hF 102 i (by unfold u_tF; omega)]; exact h i hi
theorem u_xwr_one {x : Nat} (h : u_xwr m w) : u_xwr (y_sI m 102 w.length (x : Int)) (w ++ [x]) := fun i hi => by
  rw [List.length_append] at hi
  have hi2 : i < w.length + 1 := hi
  by_cases c1 : i < w.length
  · rw [e_II' (by omega), h i c1, List.getD_eq_getElem?_getD, List.getD_eq_getElem?_getD, List.getElem?_append_left c1]
  · have c2 : i = w.length := by omega
    subst c2
    rw [e_II, List.getD_eq_getElem?_getD, List.getElem?_append_right (Nat.le_refl _), Nat.sub_self]; rfl
/-- all holes are told -/
theorem l_269h (hw : u_xwr m w) (hl : w.length = n) (hn2 : 2 ≤ n) (hn8 : n ≤ 8) (hb : ∀ x ∈ w, x < L + L) (hL : y_mI m 52 0 = (L : Int)) (h6 : L ≤ 6) (hlw : y_mI m 52 4 = (lw : Int)) (h2 : lw ≤ 2) (e33 : y_mI m 49 33 = (n : Int)) {x1 : Int} : ∃ m', y_R sp ph (d + 4) 269 0 [some (y_bo 11 0 49), some (y_bi x1), some (y_bi (n : Int)), none] [] m = y_rV m' ∧ q_F (u_tF 12) m m' ∧ y_mI m' 49 42 = y_mI m 49 42 + (if u_lf L lw w then 1 else 0) := by
  have hn : w ≠ [] := fun q => by rw [q] at hl; simp at hl; omega
  have b12 : ∀ x ∈ w, x < 12 := fun x hx => by have := hb x hx; omega
  have g1 : w.getD 1 0 < 12 := by rw [List.getD_eq_getElem?_getD, List.getElem?_eq_getElem (by omega)]; exact b12 _ (List.getElem_mem _)
  have g2 : w.getD (n - 1) 0 < 12 := by rw [List.getD_eq_getElem?_getD, List.getElem?_eq_getElem (by omega)]; exact b12 _ (List.getElem_mem _)
  have ewl : u_wl w = w.getD (n - 1) 0 := by unfold u_wl; rw [hl]
  have e1 : y_mI m 102 1 = ((w.getD 1 0 : Nat) : Int) := hw 1 (by omega)
  have e2 : y_mI m 102 (n - 1) = ((w.getD (n - 1) 0 : Nat) : Int) := hw (n - 1) (by omega)
  rw [y_E_269_0, e33, if_neg (fun r => r rfl), e_g ⟨by omega, by omega⟩, show ((n : Int) - 1).toNat = n - 1 by omega, e1, e2]
  unfold u_lf
  rw [ewl]
  by_cases c : w.getD 1 0 ≤ w.getD (n - 1) 0
  · have la := l_269a (sp := sp) (ph := ph) (d := d + 2) hw hn (by omega) b12 hL h6 hlw h2 w.length 0 (by omega)
    have la' : y_R sp ph (d + 4) 269 28 [some (y_bo 11 0 49), none, some (y_bi (w.length : Int)), some (y_bi 0)] [] m = if u_la L lw w then y_R sp ph (d + 4) 269 89 [some (y_bo 11 0 49), none, some (y_bi (w.length : Int)), none] [] m else y_rV m := la
    rw [hl] at la'
    rw [if_pos (by rw [z_w_id (by omega) (by omega), z_w_id (by omega) (by omega)]; omega), decide_eq_true c, Bool.true_and, y_E_269_26, la']
    by_cases cl : u_la L lw w = true
    · rw [if_pos cl, cl, Bool.true_and, y_E_269_89]
      have step : ∀ (b1 b2 : Bool) (M : y_m), q_F (u_tF 12) m M → u_bn b1 b2 < 4 → ∃ M', y_R sp ph (d + 4) 269 91 [some (y_bo 11 0 49), none, some (y_bi (n : Int)), some (y_bi (u_bn b1 b2 : Int))] [] M = (if u_ci L w b1 b2 ≤ 0 then y_R sp ph (d + 4) 269 91 [some (y_bo 11 0 49), none, some (y_bi (n : Int)), some (y_bi ((u_bn b1 b2 : Int) + 1))] [] M' else y_rV M') ∧ q_F (u_tF 12) m M' ∧ y_mI M' 49 42 = y_mI M 49 42 := fun b1 b2 M hM hbn => by
        have eL : y_mI M 52 0 = (L : Int) := by rw [q_F_I hM 52 0 (by unfold u_tF; omega)]; exact hL
        obtain ⟨M', r1, r2⟩ := t_268 (sp := sp) (ph := ph) (d := d) (m := M) (b1 := b1) (b2 := b2) eL h6 hn hb (by omega) (u_xwr_F hw hM (by omega))
        rw [hl] at r1
        refine ⟨M', ?_, q_F_trans hM (q_F_mono r2 (fun a k q => by unfold u_tF; omega)), q_F_I r2 49 42 (by omega)⟩
        have cb : u_ci L w b1 b2 = 0 ∨ u_ci L w b1 b2 = 1 ∨ u_ci L w b1 b2 = -1 := u_xcp_b w.length 0
        rw [y_E_269_91, if_neg (by rw [z_w_id (by omega) (by omega)]; omega), r1, e_bI]
        by_cases q : u_ci L w b1 b2 ≤ 0
        · rw [if_pos (by rw [z_w_id (by omega) (by omega)]; exact q), if_pos q, y_E_269_110]
        · rw [if_neg (by rw [z_w_id (by omega) (by omega)]; exact q), if_neg q]
      obtain ⟨M1, p1, p2, p3⟩ := step true false m q_F_refl (by decide)
      have p1' : y_R sp ph (d + 4) 269 91 [some (y_bo 11 0 49), none, some (y_bi (n : Int)), some (y_bi 1)] [] m = _ := p1
      rw [p1']
      by_cases q1 : u_ci L w true false ≤ 0
      · obtain ⟨M2, p4, p5, p6⟩ := step false true M1 p2 (by decide)
        have p4' : y_R sp ph (d + 4) 269 91 [some (y_bo 11 0 49), none, some (y_bi (n : Int)), some (y_bi ((u_bn true false : Int) + 1))] [] M1 = _ := p4
        rw [if_pos q1, decide_eq_true q1, Bool.true_and, p4']
        by_cases q2 : u_ci L w false true ≤ 0
        · obtain ⟨M3, p7, p8, p9⟩ := step true true M2 p5 (by decide)
          have p7' : y_R sp ph (d + 4) 269 91 [some (y_bo 11 0 49), none, some (y_bi (n : Int)), some (y_bi ((u_bn false true : Int) + 1))] [] M2 = _ := p7
          rw [if_pos q2, decide_eq_true q2, Bool.true_and, p7']
          by_cases q3 : u_ci L w true true ≤ 0
          · rw [if_pos q3, decide_eq_true q3, y_E_269_91, if_pos (by decide), y_E_269_116]
            exact ⟨_, rfl, q_F_trans p8 (q_F_sI (by unfold u_tF; omega)), by rw [e_II, p9, p6, p3]; rfl⟩
          · rw [if_neg q3, decide_eq_false q3]
            exact ⟨M3, rfl, p8, by rw [p9, p6, p3]; exact (Int.add_zero _).symm⟩
        · rw [if_neg q2, decide_eq_false q2]
          exact ⟨M2, rfl, p5, by rw [p6, p3]; exact (Int.add_zero _).symm⟩
      · rw [if_neg q1, decide_eq_false q1]
        exact ⟨M1, rfl, p2, by rw [p3]; exact (Int.add_zero _).symm⟩
    · rw [if_neg cl, Bool.eq_false_iff.mpr cl]
      exact ⟨m, rfl, q_F_refl, (Int.add_zero _).symm⟩
  · rw [if_neg (by rw [z_w_id (by omega) (by omega), z_w_id (by omega) (by omega)]; omega), decide_eq_false c]
    exact ⟨m, rfl, q_F_refl, (Int.add_zero _).symm⟩
theorem l_269 (hn2 : 2 ≤ n) (hn8 : n ≤ 8) (hnL : n = L + L) (h6 : L ≤ 6) (h2 : lw ≤ 2) : ∀ (k used : Nat) (w : List Nat) (m : y_m), w.length + k = n → used < 256 → (∀ x ∈ w, x < L + L) → y_mI m 52 0 = (L : Int) → y_mI m 52 4 = (lw : Int) → y_mI m 49 33 = (n : Int) → u_xwr m w → ∃ m', y_V sp ph (d + 5 + k) 269 [y_bo 11 0 49, y_bi (used : Int), y_bi (w.length : Int)] m = y_rV m' ∧ q_F (u_tF w.length) m m' ∧ y_mI m' 49 42 = y_mI m 49 42 + (((u_pl n k used w).filter (u_lf L lw)).length : Int) := by
  intro k
  induction k with
  | zero =>
    intro used w m hk hu hb hL hlw e33 hw
    obtain ⟨m1, a1, a2, a3⟩ := l_269h (sp := sp) (ph := ph) (d := d) (x1 := (used : Int)) hw (show w.length = n by omega) hn2 hn8 hb hL h6 hlw h2 e33
    refine ⟨m1, ?_, q_F_mono a2 (fun a k q => by unfold u_tF at *; omega), ?_⟩
    · rw [Nat.add_zero, y_C_269, show (w.length : Int) = (n : Int) by omega]
      exact a1
    · rw [a3, show u_pl n 0 used w = [w] from rfl, List.filter_cons]
      split <;> rfl
  | succ k ih =>
    intro used w m hk hu hb hL hlw e33 hw
    have loop : ∀ (c h : Nat) (m : y_m), h + c = n → 1 ≤ h → y_mI m 52 0 = (L : Int) → y_mI m 52 4 = (lw : Int) → y_mI m 49 33 = (n : Int) → u_xwr m w → ∃ m', y_R sp ph (d + 5 + k) 269 129 [some (y_bo 11 0 49), some (y_bi (used : Int)), some (y_bi (w.length : Int)), some (y_bi (h : Int))] [] m = y_rV m' ∧ q_F (u_tF w.length) m m' ∧ y_mI m' 49 42 = y_mI m 49 42 + ((((List.range' h c).flatMap (fun h => if used.testBit h then [] else u_pl n k (used ||| 2 ^ h) (w ++ [h]))).filter (u_lf L lw)).length : Int) := by
      intro c
      induction c with
      | zero =>
        intro h m hh h1 hL hlw e33 hw
        refine ⟨m, ?_, q_F_refl, (Int.add_zero _).symm⟩
        rw [y_E_269_129, e33, if_pos (by rw [z_w_id (by omega) (by omega), z_w_id (by omega) (by omega)]; omega), y_E_269_174]
      | succ c ihc =>
        intro h m hh h1 hL hlw e33 hw
        rw [List.range'_succ, List.flatMap_cons, List.filter_append, List.length_append]
        have nb := n_bit (s := used) (h := h) (by omega) (by omega)
        have n168 : ∀ M : y_m, y_R sp ph (d + 5 + k) 269 168 [some (y_bo 11 0 49), some (y_bi (used : Int)), some (y_bi (w.length : Int)), some (y_bi (h : Int))] [] M = y_R sp ph (d + 5 + k) 269 129 [some (y_bo 11 0 49), some (y_bi (used : Int)), some (y_bi (w.length : Int)), some (y_bi ((h + 1 : Nat) : Int))] [] M := fun M => by
          rw [y_E_269_168, show (h : Int) + 1 = ((h + 1 : Nat) : Int) by omega]
        rw [y_E_269_129, e33, if_neg (by rw [z_w_id (by omega) (by omega), z_w_id (by omega) (by omega)]; omega), nb]
        by_cases cb : used.testBit h = true
        · rw [if_pos cb, if_pos cb, if_neg (by decide), n168]
          obtain ⟨m2, r1, r2, r3⟩ := ihc (h + 1) m (by omega) (by omega) hL hlw e33 hw
          refine ⟨m2, r1, r2, ?_⟩
          rw [r3, show (([] : List (List Nat)).filter (u_lf L lw)).length = 0 from rfl]
          omega
        · rw [if_neg cb, if_neg cb, if_pos (by decide), y_E_269_149]
          have h2i : 2 ^ h < 256 := Nat.pow_lt_pow_right (a := 2) (by decide) (show h < 8 by omega)
          have hor : used ||| 2 ^ h < 256 := Nat.or_lt_two_pow (n := 8) hu h2i
          have eor : z_ior (used : Int) (z_ishl 1 (h : Int)) = ((used ||| 2 ^ h : Nat) : Int) := by
            rw [n_one (by omega), n_ior (by omega) (by omega)]
          have bx : ∀ z ∈ w ++ [h], z < L + L := fun z hz => by
            rcases List.mem_append.mp hz with q | q
            · exact hb z q
            · simp at q; omega
          have l1 : (w ++ [h]).length = w.length + 1 := by simp
          have e1 : (w.length : Int) + 1 = ((w ++ [h]).length : Int) := by rw [l1]; omega
          have F1 : q_F (u_tF w.length) m (y_sI m 102 w.length (h : Int)) := q_F_sI (by unfold u_tF; omega)
          obtain ⟨m1, a1, a2, a3⟩ := ih (used ||| 2 ^ h) (w ++ [h]) (y_sI m 102 w.length (h : Int)) (by omega) hor bx (by rw [e_II' (by omega)]; exact hL) (by rw [e_II' (by omega)]; exact hlw) (by rw [e_II' (by omega)]; exact e33) (u_xwr_one hw)
          have F2 : q_F (u_tF w.length) m m1 := q_F_trans F1 (q_F_mono a2 (fun a k q => by rw [l1] at q; unfold u_tF at *; omega))
          obtain ⟨m2, r1, r2, r3⟩ := ihc (h + 1) m1 (by omega) (by omega) (by rw [q_F_I F2 52 0 (by unfold u_tF; omega)]; exact hL) (by rw [q_F_I F2 52 4 (by unfold u_tF; omega)]; exact hlw) (by rw [q_F_I F2 49 33 (by unfold u_tF; omega)]; exact e33) (u_xwr_F hw F2 (Nat.le_refl _))
          refine ⟨m2, ?_, q_F_trans F2 r2, ?_⟩
          · rw [e_g ⟨by omega, by omega⟩, Int.toNat_natCast, eor, e1, a1, e_bV, n168]
            exact r1
          · rw [r3, a3, e_II' (by omega)]; omega
    obtain ⟨m2, r1, r2, r3⟩ := loop (n - 1) 1 m (by omega) (Nat.le_refl _) hL hlw e33 hw
    refine ⟨m2, ?_, r2, r3⟩
    have r1' : y_R sp ph (d + 5 + k) 269 129 [some (y_bo 11 0 49), some (y_bi (used : Int)), some (y_bi (w.length : Int)), some (y_bi 1)] [] m = _ := r1
    rw [show d + 5 + (k + 1) = (d + 5 + k) + 1 by omega, y_C_269, y_E_269_0, e33, if_pos (by rw [z_w_id (by omega) (by omega), z_w_id (by omega) (by omega)]; omega), y_E_269_127]
    exact r1'
/-- how many, alike ones once -/
def u_ac (L lw : Nat) : Int := (((u_pl (L + L) (L + L - 1) 1 [0]).filter (u_lf L lw)).length : Int)
theorem t_271 (hc : m_Ch m L R A B lw t) (hL1 : 1 ≤ L) : ∃ m', y_V sp ph (d + 20) 271 [y_bo 11 0 49] m = y_rI (if L = R ∧ t = 0 ∧ L ≤ 4 then (if L = 1 then 0 else u_ac L lw) else -1) m' ∧ q_F (fun a k => a = 98 ∨ a = 101 ∨ a = 102 ∨ (a = 49 ∧ (k = 0 ∨ k = 33 ∨ k = 42))) m m' ∧ y_mI m' 49 0 = 0 := by
  have F0 : q_F (fun a k => a = 98 ∨ a = 101 ∨ a = 102 ∨ (a = 49 ∧ (k = 0 ∨ k = 33 ∨ k = 42))) m (y_sI m 49 0 0) := q_F_sI (by omega)
  have hc0 := m_Ch_F hc F0 (fun a k q => by unfold q_wr; omega)
  have e0 : y_mI (y_sI m 49 0 0) 49 0 = 0 := e_II
  have t270 := t_270 (sp := sp) (ph := ph) (d := d + 18) hc0
  have t199 := t_199 (sp := sp) (ph := ph) (d := d + 18) (m := y_sI m 49 0 0)
  rw [y_C_271, y_E_271_0, t270, e_bI]
  generalize y_sI m 49 0 0 = m0 at *
  have h1 := hc0.2.2.2.2.2.2.2.2.2.1
  have h2 := hc0.2.2.2.2.2.2.2.2.2.2.1
  have c0 := hc0.1
  have c1 := hc0.2.1
  have c4 := hc0.2.2.2.2.1
  have hlw := hc0.2.2.2.2.2.2.1
  by_cases c : L = R ∧ t = 0
  · rw [decide_eq_true c, if_neg (by decide), t199, e_bI, c0, c1]
    obtain ⟨rfl, rfl⟩ := c
    by_cases c8 : L ≤ 4
    · rw [if_pos (by rw [z_w_id (by omega) (by omega)]; omega), y_E_271_23, if_pos ⟨rfl, rfl, c8⟩]
      have t199b := t_199 (sp := sp) (ph := ph) (d := d + 18) (m := y_sI m0 49 42 0)
      rw [e_II' (by omega), e_II' (by omega), c0, c1] at t199b
      rw [t199b, e_bI]
      have F1 : q_F (fun a k => a = 98 ∨ a = 101 ∨ a = 102 ∨ (a = 49 ∧ (k = 33 ∨ k = 42))) m0 (y_sI (y_sI (y_sI m0 49 42 0) 49 33 ((L : Int) + (L : Int))) 102 0 0) := q_F_trans (q_F_trans (q_F_sI (by omega)) (q_F_sI (by omega))) (q_F_sI (by omega))
      have e33 : y_mI (y_sI (y_sI (y_sI m0 49 42 0) 49 33 ((L : Int) + (L : Int))) 102 0 0) 49 33 = ((L + L : Nat) : Int) := by rw [e_II' (by omega), e_II]; omega
      have e42 : y_mI (y_sI (y_sI (y_sI m0 49 42 0) 49 33 ((L : Int) + (L : Int))) 102 0 0) 49 42 = 0 := by rw [e_II' (by omega), e_II' (by omega), e_II]
      have e102 : y_mI (y_sI (y_sI (y_sI m0 49 42 0) 49 33 ((L : Int) + (L : Int))) 102 0 0) 102 0 = 0 := e_II
      generalize y_sI (y_sI (y_sI m0 49 42 0) 49 33 ((L : Int) + (L : Int))) 102 0 0 = M at *
      have F2 : q_F (fun a k => a = 98 ∨ a = 101 ∨ a = 102 ∨ (a = 49 ∧ (k = 0 ∨ k = 33 ∨ k = 42))) m M := q_F_trans F0 (q_F_mono F1 (fun a k q => by omega))
      have f0 : y_mI M 49 0 = 0 := by rw [q_F_I F1 49 0 (by omega)]; exact e0
      rw [e33]
      by_cases cL : L = 1
      · rw [if_pos (by rw [z_w_id (by omega) (by omega)]; omega), if_pos cL, y_E_271_57, e42]
        exact ⟨M, rfl, F2, f0⟩
      · obtain ⟨m2, r1, r2, r3⟩ := l_269 (sp := sp) (ph := ph) (d := d + 14 - (L + L - 1)) (n := L + L) (L := L) (lw := lw) (by omega) (by omega) rfl h1 hlw (L + L - 1) 1 [0] M (by show 1 + (L + L - 1) = L + L; omega) (by omega) (fun x hx => by rw [List.mem_singleton] at hx; omega) (by rw [q_F_I F1 52 0 (by omega)]; exact c0) (by rw [q_F_I F1 52 4 (by omega)]; exact c4) e33 (fun i hi => by
          have i0 : i = 0 := by rw [List.length_singleton] at hi; omega
          rw [i0, e102]; rfl)
        rw [show d + 14 - (L + L - 1) + 5 + (L + L - 1) = d + 19 by omega] at r1
        have r1' : y_V sp ph (d + 19) 269 [y_bo 11 0 49, y_bi 1, y_bi 1] M = y_rV m2 := r1
        rw [if_neg (by rw [z_w_id (by omega) (by omega)]; omega), if_neg cL, r1', e_bV, y_E_271_57, r3, e42, Int.zero_add]
        exact ⟨m2, rfl, q_F_trans F2 (q_F_mono r2 (fun a k q => by unfold u_tF at q; omega)), by rw [q_F_I r2 49 0 (by unfold u_tF; omega)]; exact f0⟩
    · rw [if_neg (by rw [z_w_id (by omega) (by omega)]; omega), y_E_271_21, if_neg (fun q => c8 q.2.2)]
      exact ⟨m0, rfl, F0, e0⟩
  · rw [decide_eq_false c, if_pos (by decide), y_E_271_21, if_neg (fun q => c ⟨q.1, q.2.1⟩)]
    exact ⟨m0, rfl, F0, e0⟩
end Aliker
