/-! ===== the class's walk through holes: within, guess, alike ===== -/
theorem n_bits_64 : ∀ x, x < 64 → ∀ y, y < 64 → 0 < 64 * x + y → n_bits (64 * x + y) = n_low (64 * x + y) :: n_bits (w_rm (64 * x + y) (n_low (64 * x + y))) := by decide +kernel
theorem n_bits_low {x : Nat} (h : x < 4096) (h' : 0 < x) : n_bits x = n_low x :: n_bits (w_rm x (n_low x)) := by
  have e := n_bits_64 (x / 64) (by omega) (x % 64) (by omega)
  rw [show 64 * (x / 64) + x % 64 = x by omega] at e
  exact e h'
theorem n_bits_0 : n_bits 0 = [] := by decide
theorem n_bits_nodup {x : Nat} : (n_bits x).Nodup := List.Pairwise.filter _ List.nodup_range
def u_wl (w : List Nat) : Nat := w.getD (w.length - 1) 0
def u_hm (L lw : Nat) (one : Bool) (w : List Nat) (a : Bool) : Bool := (r_may lw a (r_x L (u_wl w) (w.getD 0 0)) && r_may lw (r_x L (u_wl w) (w.getD 0 0)) (r_x L (w.getD 0 0) (w.getD 1 0))) && (!one || decide (w.getD 1 0 < u_wl w))
def u_ma (lw : Nat) (a : Option Bool) (b : Bool) : Bool := match a with | none => true | some a => r_may lw a b
def u_ai (a : Option Bool) : Int := match a with | none => -1 | some a => n_b a
def u_hs (P : List (Nat × Nat)) (rest last : Nat) (free : Bool) : List Nat := (n_bits rest).filter (fun h => free || u_pr P last h)
def u_go (L lw : Nat) (P : List (Nat × Nat)) (one : Bool) : Nat → List Nat → Nat → Option Bool → Bool → List (List Nat)
  | 0, _, _, none, _ => []
  | 0, w, _, some a, _ => if u_hm L lw one w a then [w] else []
  | k + 1, w, rest, a, free => (u_hs P rest (u_wl w) free).flatMap (fun h => if u_ma lw a (r_x L (u_wl w) h) then u_go L lw P one k (w ++ [h]) (w_rm rest h) (some (r_x L (u_wl w) h)) (decide (P.length = 0) || u_pr P (u_wl w) h) else [])
/-- the way as far as it goes -/
def u_wb (m : y_m) (n : Nat) (w : List Nat) : Prop := y_mI m 14 1 = (n : Int) ∧ n ≤ 12 ∧ w.length ≤ n ∧ ∀ i, i < w.length → y_mI m 15 i = ((w.getD i 0 : Nat) : Int)
def u_wF (p : Nat) (a k : Nat) : Prop := (a = 13 ∧ (k = 3 ∨ k = 4)) ∨ (a = 15 ∧ p ≤ k)
section Walk
variable {sp : Nat → Nat} {ph : Bool} {d : Nat} {m m' : y_m} {L lw n b : Nat} {w : List Nat} {P : List (Nat × Nat)} {one : Bool}
theorem u_wb_F {p : Nat} (h : u_wb m n w) (hF : q_F (u_wF p) m m') (hp : w.length ≤ p) : u_wb m' n w := ⟨by rw [q_F_I hF 14 1 (by unfold u_wF; omega)]; exact h.1, h.2.1, h.2.2.1, fun i hi => by rw [q_F_I hF 15 i (by unfold u_wF; omega)]; exact h.2.2.2 i hi⟩
theorem u_wb_sI {x : Nat} (h : u_wb m n w) (hn : w.length < n) : u_wb (y_sI m 15 w.length (x : Int)) n (w ++ [x]) := by
  refine ⟨by rw [e_II' (by omega)]; exact h.1, h.2.1, by simp; omega, fun i hi => ?_⟩
  rw [List.length_append, List.length_singleton] at hi
  by_cases c : i = w.length
  · subst c
    rw [e_II, List.getD_eq_getElem?_getD, List.getElem?_append_right (Nat.le_refl _), Nat.sub_self]; rfl
  · rw [e_II' (by omega), h.2.2.2 i (by omega), List.getD_eq_getElem?_getD, List.getD_eq_getElem?_getD, List.getElem?_append_left (by omega)]
theorem u_wb_W (h : u_wb m n w) (hl : w.length = n) : q_W m 14 w := ⟨by rw [hl]; exact h.1, by rw [hl]; exact h.2.1, h.2.2.2⟩
theorem s_65b {i : Nat} (h : u_wb m n w) (hi : i < w.length) : y_V sp ph (d + 2) 65 [y_bo 8 0 14, y_bi (i : Int)] m = y_rI ((w.getD i 0 : Nat) : Int) m := by
  obtain ⟨e1, e2, e3, e4⟩ := h
  have e : (i : Int) % (n : Int) = (i : Int) := Int.emod_eq_of_lt (by omega) (by omega)
  simp (disch := omega) only [y_C_65, y_E_65_0, y_E_65_12, y_E_65_27, e1, z_w_id, if_pos, s_2, e_bI, s_7, e, Int.toNat_natCast]
  rw [e4 i hi]
/-- home -/
theorem s_129t {a : Bool} (h : u_wb m n w) (h2 : 2 ≤ w.length) (hb : ∀ x ∈ w, x < 12) (hL : y_mI m b 0 = (L : Int)) (hL6 : L ≤ 6) (hw : y_mI m b 5 = (lw : Int)) (hlw : lw ≤ 2) : y_V sp ph (d + 3) 129 [y_bo 7 0 13, y_bo 0 0 b, y_bi ((u_wl w : Nat) : Int), y_bi (n_b a)] m = y_R sp ph (d + 2) 129 61 [some (y_bo 7 0 13), some (y_bo 0 0 b), some (y_bi ((u_wl w : Nat) : Int)), none, none, some (y_bi ((w.getD 1 0 : Nat) : Int)), none, none] [y_bi (n_b (r_may lw a (r_x L (u_wl w) (w.getD 0 0)) && r_may lw (r_x L (u_wl w) (w.getD 0 0)) (r_x L (w.getD 0 0) (w.getD 1 0))))] m := by
  have gm : ∀ i, i < w.length → w.getD i 0 < 12 := fun i hi => by
    rw [List.getD_eq_getElem?_getD, List.getElem?_eq_getElem hi]; exact hb _ (List.getElem_mem _)
  have b0 := gm 0 (by omega)
  have b1 := gm 1 (by omega)
  have bl : u_wl w < 12 := gm (w.length - 1) (by omega)
  have s65a : y_V sp ph (d + 2) 65 [y_bo 8 0 14, y_bi 0] m = _ := s_65b (sp := sp) (ph := ph) (d := d) (i := 0) h (by omega)
  have s65b : y_V sp ph (d + 2) 65 [y_bo 8 0 14, y_bi 1] m = _ := s_65b (sp := sp) (ph := ph) (d := d) (i := 1) h (by omega)
  generalize w.getD 0 0 = h0 at *
  generalize w.getD 1 0 = h1 at *
  generalize u_wl w = l at *
  have s45a := s_45 (sp := sp) (ph := ph) (d := d) (m := m) (a := b) (L := L) (x := l) (y := h0) hL hL6 (by omega) (by omega)
  have s45b := s_45 (sp := sp) (ph := ph) (d := d) (m := m) (a := b) (L := L) (x := h0) (y := h1) hL hL6 (by omega) (by omega)
  have s46a := s_46 (sp := sp) (ph := ph) (d := d + 1) (m := m) (a := b) (i := a) (o := r_x L l h0) hw hlw
  have s46b := s_46 (sp := sp) (ph := ph) (d := d + 1) (m := m) (a := b) (i := r_x L l h0) (o := r_x L h0 h1) hw hlw
  rw [y_C_129, y_E_129_0, s65a, e_bI, s65b, e_bI, s45a, e_bI, s46a, e_bI]
  cases r_may lw a (r_x L l h0)
  · rw [if_pos (by decide), y_E_129_60]; rfl
  · rw [if_neg (by decide), s45b, e_bI, s46b, e_bI]
    cases r_may lw (r_x L l h0) (r_x L h0 h1)
    · rw [if_pos (by decide), y_E_129_60]; rfl
    · rw [if_neg (by decide)]; rfl
theorem s_129 {a : Bool} {pu : Int} {si : Int} (h : u_wb m n w) (h2 : 2 ≤ w.length) (hb : ∀ x ∈ w, x < 12) (hL : y_mI m b 0 = (L : Int)) (hL6 : L ≤ 6) (hw : y_mI m b 5 = (lw : Int)) (hlw : lw ≤ 2) (hpu : y_mI m 13 2 = pu) (hpu2 : pu = 0 ∨ pu = 1 ∨ pu = 2) (hsi : pu = 2 → ∀ M : y_m, q_F (u_wF 12) m M → y_V sp ph (d + 2) 76 [y_bo 8 0 14, y_bo 0 0 b] M = y_rI si M) : ∃ m', y_V sp ph (d + 3) 129 [y_bo 7 0 13, y_bo 0 0 b, y_bi ((u_wl w : Nat) : Int), y_bi (n_b a)] m = y_rV m' ∧ q_F (fun a k => a = 13 ∧ (k = 3 ∨ k = 4)) m m' ∧ y_mI m' 13 3 = y_mI m 13 3 + (if u_hm L lw (decide (pu ≠ 0)) w a then 1 else 0) ∧ y_mI m' 13 4 = y_mI m 13 4 + (if u_hm L lw (decide (pu ≠ 0)) w a ∧ pu = 2 then si else 0) := by
  have gm : ∀ i, i < w.length → w.getD i 0 < 12 := fun i hi => by
    rw [List.getD_eq_getElem?_getD, List.getElem?_eq_getElem hi]; exact hb _ (List.getElem_mem _)
  have b1 := gm 1 (by omega)
  have bl : u_wl w < 12 := gm (w.length - 1) (by omega)
  rw [s_129t h h2 hb hL hL6 hw hlw, y_E_129_61]
  unfold u_hm
  cases (r_may lw a (r_x L (u_wl w) (w.getD 0 0)) && r_may lw (r_x L (u_wl w) (w.getD 0 0)) (r_x L (w.getD 0 0) (w.getD 1 0)))
  · rw [if_pos (by decide), y_E_129_120]
    refine ⟨m, rfl, q_F_refl, ?_, ?_⟩
    · rw [Bool.false_and, if_neg (by decide)]; omega
    · rw [Bool.false_and, if_neg (fun r => by cases r.1)]; omega
  · rw [if_neg (by decide), hpu, Bool.true_and]
    have F1 : q_F (fun a k => a = 13 ∧ (k = 3 ∨ k = 4)) m (y_sI m 13 3 (y_mI m 13 3 + 1)) := q_F_sI ⟨rfl, Or.inl rfl⟩
    have fin : ∃ m', y_R sp ph (d + 2) 129 81 [some (y_bo 7 0 13), some (y_bo 0 0 b), none, none, none, none, none, none] [] m = y_rV m' ∧ q_F (fun a k => a = 13 ∧ (k = 3 ∨ k = 4)) m m' ∧ y_mI m' 13 3 = y_mI m 13 3 + 1 ∧ y_mI m' 13 4 = y_mI m 13 4 + (if pu = 2 then si else 0) := by
      have e2 : y_mI (y_sI m 13 3 (y_mI m 13 3 + 1)) 13 2 = pu := by rw [e_II' (by omega)]; exact hpu
      have e4 : y_mI (y_sI m 13 3 (y_mI m 13 3 + 1)) 13 4 = y_mI m 13 4 := e_II' (by omega)
      rw [y_E_129_81, e2, e4]
      rcases hpu2 with q | q | q
      · rw [q, if_pos (by decide), y_E_129_115, y_E_129_116, y_E_129_120]
        exact ⟨_, rfl, q_F_trans F1 (q_F_sI ⟨rfl, Or.inr rfl⟩), by rw [e_II' (by omega), e_II], by rw [e_II, if_neg (by decide)]⟩
      · rw [q, if_pos (by decide), y_E_129_115, y_E_129_116, y_E_129_120]
        exact ⟨_, rfl, q_F_trans F1 (q_F_sI ⟨rfl, Or.inr rfl⟩), by rw [e_II' (by omega), e_II], by rw [e_II, if_neg (by decide)]⟩
      · have s76 := hsi q _ (q_F_mono F1 (fun a k r => Or.inl r))
        rw [q, if_neg (by decide), s76, e_bI, y_E_129_116, y_E_129_120]
        exact ⟨_, rfl, q_F_trans F1 (q_F_sI ⟨rfl, Or.inr rfl⟩), by rw [e_II' (by omega), e_II], by rw [e_II, if_pos rfl]⟩
    by_cases c0 : pu = 0
    · rw [if_pos (by rw [c0]; decide)]
      obtain ⟨m2, r1, r2, r3, r4⟩ := fin
      refine ⟨m2, r1, r2, ?_, ?_⟩
      · rw [r3, decide_eq_false (by omega)]; rfl
      · rw [r4, if_neg (by omega), if_neg (by omega)]
    · rw [if_neg (by rcases hpu2 with q | q | q <;> rw [q] <;> first | decide | exact absurd q c0), decide_eq_true c0, Bool.not_true, Bool.false_or]
      by_cases c1 : w.getD 1 0 < u_wl w
      · rw [if_neg (by rw [z_w_id (by omega) (by omega), z_w_id (by omega) (by omega)]; omega), decide_eq_true c1]
        obtain ⟨m2, r1, r2, r3, r4⟩ := fin
        refine ⟨m2, r1, r2, by rw [r3, if_pos rfl], ?_⟩
        rw [r4]
        by_cases c2 : pu = 2
        · rw [if_pos c2, if_pos ⟨rfl, c2⟩]
        · rw [if_neg c2, if_neg (fun r => c2 r.2)]
      · rw [if_pos (by rw [z_w_id (by omega) (by omega), z_w_id (by omega) (by omega)]; omega), decide_eq_false c1, y_E_129_120]
        exact ⟨m, rfl, q_F_refl, by rw [if_neg (by decide)]; omega, by rw [if_neg (fun r => by cases r.1)]; omega⟩
end Walk
section Walk
variable {sp : Nat → Nat} {ph : Bool} {d : Nat} {m m' : y_m} {L lw n b : Nat} {w : List Nat} {P : List (Nat × Nat)} {one : Bool}
/-- what stays through a walk -/
def u_xwk (m : y_m) (b L lw n : Nat) (P : List (Nat × Nat)) (pu : Int) : Prop := y_mI m b 0 = (L : Int) ∧ L ≤ 6 ∧ y_mI m b 5 = (lw : Int) ∧ lw ≤ 2 ∧ u_PC m 16 P ∧ (∀ h ∈ u_fp P, h < 12) ∧ P.length ≤ 6 ∧ y_mI m 13 2 = pu ∧ (b ≠ 13 ∧ b ≠ 15) ∧ (pu = 0 ∨ pu = 1 ∨ pu = 2)
theorem u_wk_F {p : Nat} {pu : Int} (h : u_xwk m b L lw n P pu) (hF : q_F (u_wF p) m m') : u_xwk m' b L lw n P pu := by
  obtain ⟨h1, h2, h3, h4, h5, h6, h7, h8, h9, h10⟩ := h
  obtain ⟨p1, ⟨s, p2, p3, p4⟩, p5⟩ := h5
  refine ⟨by rw [q_F_I hF b 0 (by unfold u_wF; omega)]; exact h1, h2, by rw [q_F_I hF b 5 (by unfold u_wF; omega)]; exact h3, h4, ⟨by rw [q_F_I hF 16 1 (by unfold u_wF; omega)]; exact p1, ⟨s, p2, by rw [q_F_I hF 16 2 (by unfold u_wF; omega)]; exact p3, p4⟩, fun pr hp => ⟨by rw [q_F_I hF (16 + 1) _ (by unfold u_wF; omega)]; exact (p5 pr hp).1, by rw [q_F_I hF (16 + 1) _ (by unfold u_wF; omega)]; exact (p5 pr hp).2⟩⟩, h6, h7, by rw [q_F_I hF 13 2 (by unfold u_wF; omega)]; exact h8, h9, h10⟩
theorem u_hs_free {rest last : Nat} : u_hs P rest last true = n_bits rest := by
  unfold u_hs
  exact List.filter_eq_self.mpr (fun h _ => rfl)
theorem u_hs_no {rest last : Nat} (h : ∀ y, u_pr P last y = false) : u_hs P rest last false = [] := by
  unfold u_hs
  exact List.filter_eq_nil_iff.mpr (fun y _ => by rw [Bool.false_or, h y]; decide)
theorem u_hs_one {rest last v : Nat} (h : ∀ y, (v = y) = (u_pr P last y = true)) : u_hs P rest last false = n_bits (rest &&& 2 ^ v) := by
  unfold u_hs n_bits
  rw [List.filter_filter]
  refine List.filter_congr (fun y _ => ?_)
  rw [Nat.testBit_and, Nat.testBit_two_pow, Bool.false_or, Bool.and_comm]
  refine congrArg (fun z => rest.testBit y && z) ?_
  have := h y
  by_cases c : v = y
  · rw [decide_eq_true c]; exact this ▸ c
  · rw [decide_eq_false c]
    rw [this] at c
    exact Bool.eq_false_iff.mpr c
theorem s_128a {pu : Int} {rest : Nat} {a : Option Bool} {free : Bool} (hK : u_xwk m b L lw n P pu) (hB : u_wb m n w) (hw : w ≠ []) (hb : ∀ x ∈ w, x < 12) (hlen : w.length < 12) (hr : rest < 4096) (hr0 : rest ≠ 0) : ∃ (v : Int) (op : Nat), -1 ≤ v ∧ v < 12 ∧ (∀ y : Nat, (v = y) = (u_pr P (u_wl w) y = true)) ∧ op < 4096 ∧ n_bits op = u_hs P rest (u_wl w) free ∧ y_V sp ph (d + 3) 128 [y_bo 7 0 13, y_bo 0 0 b, y_bi (w.length : Int), y_bi (rest : Int), y_bi (u_ai a), y_bi (n_b free)] m = y_R sp ph (d + 2) 128 74 [some (y_bo 7 0 13), some (y_bo 0 0 b), some (y_bi (w.length : Int)), some (y_bi (rest : Int)), some (y_bi (u_ai a)), none, some (y_bi ((u_wl w : Nat) : Int)), some (y_bi v), none, some (y_bi (op : Int)), none, none] [] m := by
  obtain ⟨h1, h2, h3, h4, h5, h6, h7, h8, h9⟩ := hK
  have hp : 0 < w.length := List.length_pos_iff.mpr hw
  have bl : u_wl w < 12 := by
    unfold u_wl
    rw [List.getD_eq_getElem?_getD, List.getElem?_eq_getElem (by omega)]; exact hb _ (List.getElem_mem _)
  have s65 := s_65b (sp := sp) (ph := ph) (d := d) (i := w.length - 1) hB (by omega)
  rw [show ((w.length - 1 : Nat) : Int) = (w.length : Int) - 1 by omega] at s65
  have s65' : y_V sp ph (d + 2) 65 [y_bo 8 0 14, y_bi ((w.length : Int) - 1)] m = y_rI ((u_wl w : Nat) : Int) m := s65
  obtain ⟨v, v1, v2, v3, v4⟩ := s_81 (sp := sp) (ph := ph) (d := d) (x := u_wl w) h5 h6 bl
  have zr : z_w (rest : Int) = (rest : Int) := z_w_id (by omega) (by omega)
  cases free
  · by_cases c : v = -1
    · refine ⟨v, 0, v2, v3, v4, by omega, ?_, ?_⟩
      · rw [u_hs_no (fun y => by
          have := v4 y
          rw [c] at this
          exact Bool.eq_false_iff.mpr (fun q => by rw [← this] at q; omega))]
        exact n_bits_0
      · rw [y_C_128, y_E_128_0, s65', e_bI, if_neg (by rw [zr]; omega), if_pos (by rw [z_w_id (by omega) (by omega)]; omega), y_E_128_32, v1, e_bI, if_pos (by decide), y_E_128_52, if_neg (by rw [c]; decide), y_E_128_68]; rfl
    · obtain ⟨p, rfl⟩ : ∃ p : Nat, v = p := ⟨v.toNat, by omega⟩
      have h2p : 2 ^ p < 4096 := by
        have := Nat.pow_lt_pow_right (a := 2) (by decide) (show p < 12 by omega)
        exact this
      have hand : rest &&& 2 ^ p < 4096 := Nat.lt_of_le_of_lt Nat.and_le_left hr
      refine ⟨p, rest &&& 2 ^ p, v2, v3, v4, hand, ?_, ?_⟩
      · rw [u_hs_one (v := p) (fun y => by
          have := v4 y
          rw [← this]
          apply propext
          constructor
          · intro q; rw [q]
          · intro q; omega)]
      · rw [y_C_128, y_E_128_0, s65', e_bI, if_neg (by rw [zr]; omega), if_pos (by rw [z_w_id (by omega) (by omega)]; omega), y_E_128_32, v1, e_bI, if_pos (by decide), y_E_128_52, if_pos (by rw [z_w_id (by omega) (by omega)]; omega), y_E_128_62, y_E_128_68, n_one (by omega), n_iand (by omega) (by omega)]
  · refine ⟨v, rest, v2, v3, v4, hr, by rw [u_hs_free], ?_⟩
    rw [y_C_128, y_E_128_0, s65', e_bI, if_neg (by rw [zr]; omega), if_pos (by rw [z_w_id (by omega) (by omega)]; omega), y_E_128_32, v1, e_bI, if_neg (by decide), y_E_128_68]
theorem s_127f {pu : Int} (h : y_mI m 13 2 = pu) (h' : pu = 0 ∨ pu = 2 ∨ (pu = 1 ∧ y_mI m 13 3 = 0)) : y_V sp ph (d + 1) 127 [y_bo 7 0 13] m = y_rI 0 m := by
  rw [y_C_127, y_E_127_0, h]
  rcases h' with q | q | ⟨q, q'⟩
  · rw [q, if_pos (by decide), y_E_127_19, y_E_127_20, e_g (by omega)]
  · rw [q, if_pos (by decide), y_E_127_19, y_E_127_20, e_g (by omega)]
  · rw [q, if_neg (by decide), q', if_pos (by decide), y_E_127_19, y_E_127_20, e_g (by omega)]
theorem s_127t (h : y_mI m 13 2 = 1) (h' : y_mI m 13 3 = 1) : y_V sp ph (d + 1) 127 [y_bo 7 0 13] m = y_rI 1 m := by
  rw [y_C_127, y_E_127_0, h, if_neg (by decide), h', if_neg (by decide), y_E_127_20, e_g (by omega)]
theorem s_128b {pu v : Int} {rest op h : Nat} {a : Option Bool} (hK : u_xwk m b L lw n P pu) (hov : pu = 0 ∨ pu = 2 ∨ (pu = 1 ∧ y_mI m 13 3 = 0)) (hl : u_wl w < 12) (hlen : w.length < 12) (hr : rest < 4096) (ho : op < 4096) (ho0 : op ≠ 0) (hh : h = n_low op) (hv1 : -1 ≤ v) (hv2 : v < 12) (hv : (v = h) = (u_pr P (u_wl w) h = true)) : y_R sp ph (d + 3) 128 74 [some (y_bo 7 0 13), some (y_bo 0 0 b), some (y_bi (w.length : Int)), some (y_bi (rest : Int)), some (y_bi (u_ai a)), none, some (y_bi ((u_wl w : Nat) : Int)), some (y_bi v), none, some (y_bi (op : Int)), none, none] [] m = if u_ma lw a (r_x L (u_wl w) h) then y_bV (y_V sp ph (d + 3) 128 [y_bo 7 0 13, y_bo 0 0 b, y_bi ((w.length + 1 : Nat) : Int), y_bi (w_rm rest h : Int), y_bi (u_ai (some (r_x L (u_wl w) h))), y_bi (n_b (decide (P.length = 0) || u_pr P (u_wl w) h))] (y_sI m 15 w.length (h : Int))) (fun m1 => y_R sp ph (d + 3) 128 74 [some (y_bo 7 0 13), some (y_bo 0 0 b), some (y_bi (w.length : Int)), some (y_bi (rest : Int)), some (y_bi (u_ai a)), none, some (y_bi ((u_wl w : Nat) : Int)), some (y_bi v), none, some (y_bi (w_rm op h : Int)), none, none] [] m1) (fun e m1 => y_px e m1) else y_R sp ph (d + 3) 128 74 [some (y_bo 7 0 13), some (y_bo 0 0 b), some (y_bi (w.length : Int)), some (y_bi (rest : Int)), some (y_bi (u_ai a)), none, some (y_bi ((u_wl w : Nat) : Int)), some (y_bi v), none, some (y_bi (w_rm op h : Int)), none, none] [] m := by
  obtain ⟨h1, h2, h3, h4, h5, h6, h7, h8, h9, h10⟩ := hK
  have lo := w_low ho (by omega)
  rw [← hh] at lo
  obtain ⟨l1, l2, l3, l4⟩ := lo
  have s0 := s_0 (sp := sp) (ph := ph) (d := d + 2) (m := m) ho (by omega)
  rw [← hh] at s0
  have s127 := s_127f (sp := sp) (ph := ph) (d := d + 2) h8 hov
  have s45 := s_45 (sp := sp) (ph := ph) (d := d + 1) (m := m) (a := b) (L := L) (x := u_wl w) (y := h) h1 h2 (by omega) (by omega)
  have er : z_iand (op : Int) ((op : Int) - 1) = (w_rm op h : Int) := by
    rw [show (op : Int) - 1 = ((op - 1 : Nat) : Int) by omega, n_iand (by omega) (by omega), l1]
  have e170 : ∀ M : y_m, y_R sp ph (d + 3) 128 170 [some (y_bo 7 0 13), some (y_bo 0 0 b), some (y_bi (w.length : Int)), some (y_bi (rest : Int)), some (y_bi (u_ai a)), none, some (y_bi ((u_wl w : Nat) : Int)), some (y_bi v), none, some (y_bi (op : Int)), none, none] [] M = y_R sp ph (d + 3) 128 74 [some (y_bo 7 0 13), some (y_bo 0 0 b), some (y_bi (w.length : Int)), some (y_bi (rest : Int)), some (y_bi (u_ai a)), none, some (y_bi ((u_wl w : Nat) : Int)), some (y_bi v), none, some (y_bi (w_rm op h : Int)), none, none] [] M := fun M => by rw [y_E_128_170, er]
  have go : y_R sp ph (d + 3) 128 120 [some (y_bo 7 0 13), some (y_bo 0 0 b), some (y_bi (w.length : Int)), some (y_bi (rest : Int)), some (y_bi (u_ai a)), none, some (y_bi ((u_wl w : Nat) : Int)), some (y_bi v), none, some (y_bi (op : Int)), some (y_bi (h : Int)), some (y_bi (n_b (r_x L (u_wl w) h)))] [] m = y_bV (y_V sp ph (d + 3) 128 [y_bo 7 0 13, y_bo 0 0 b, y_bi ((w.length + 1 : Nat) : Int), y_bi (w_rm rest h : Int), y_bi (u_ai (some (r_x L (u_wl w) h))), y_bi (n_b (decide (P.length = 0) || u_pr P (u_wl w) h))] (y_sI m 15 w.length (h : Int))) (fun m1 => y_R sp ph (d + 3) 128 74 [some (y_bo 7 0 13), some (y_bo 0 0 b), some (y_bi (w.length : Int)), some (y_bi (rest : Int)), some (y_bi (u_ai a)), none, some (y_bi ((u_wl w : Nat) : Int)), some (y_bi v), none, some (y_bi (w_rm op h : Int)), none, none] [] m1) (fun e m1 => y_px e m1) := by
    have s66 := s_66 (sp := sp) (ph := ph) (d := d + 1) (m := m) (a := 14) (i := (w.length : Int)) (x := (h : Int)) (by omega) (by omega)
    rw [Int.toNat_natCast] at s66
    have e16 : y_mI (y_sI m 15 w.length (h : Int)) 16 1 = P.length := by rw [e_II' (by omega)]; exact h5.1
    have f167 : ∀ f : Bool, y_R sp ph (d + 3) 128 167 [some (y_bo 7 0 13), some (y_bo 0 0 b), some (y_bi (w.length : Int)), some (y_bi (rest : Int)), some (y_bi (u_ai a)), none, some (y_bi ((u_wl w : Nat) : Int)), some (y_bi v), none, some (y_bi (op : Int)), none, none] [y_bi (n_b f), y_bi (n_b (r_x L (u_wl w) h)), y_bi (z_iand (rest : Int) (z_ixor (z_ishl 1 (h : Int)) (-1))), y_bi ((w.length : Int) + 1), y_bo 0 0 b, y_bo 7 0 13] (y_sI m 15 w.length (h : Int)) = y_bV (y_V sp ph (d + 3) 128 [y_bo 7 0 13, y_bo 0 0 b, y_bi ((w.length + 1 : Nat) : Int), y_bi (w_rm rest h : Int), y_bi (u_ai (some (r_x L (u_wl w) h))), y_bi (n_b f)] (y_sI m 15 w.length (h : Int))) (fun m1 => y_R sp ph (d + 3) 128 74 [some (y_bo 7 0 13), some (y_bo 0 0 b), some (y_bi (w.length : Int)), some (y_bi (rest : Int)), some (y_bi (u_ai a)), none, some (y_bi ((u_wl w : Nat) : Int)), some (y_bi v), none, some (y_bi (w_rm op h : Int)), none, none] [] m1) (fun e m1 => y_px e m1) := fun f => by
      rw [y_E_128_167, n_rm hr l2, show (w.length : Int) + 1 = ((w.length + 1 : Nat) : Int) by omega]
      refine congrArg (fun z => y_bV _ z _) (funext fun m1 => e170 m1)
    rw [y_E_128_120, s66, e_bV, e16]
    by_cases c : P.length = 0
    · rw [if_pos (by rw [c]; decide), y_E_128_162, decide_eq_true c, Bool.true_or]
      exact f167 true
    · rw [if_neg (by rw [z_w_id (by omega) (by omega)]; omega), decide_eq_false c, Bool.false_or, z_w_id (by omega) (by omega), z_w_id (by omega) (by omega)]
      by_cases c2 : v = h
      · have e : u_pr P (u_wl w) h = true := hv ▸ c2
        rw [if_neg (fun r => r c2), y_E_128_162, e]
        exact f167 true
      · have e : u_pr P (u_wl w) h = false := Bool.eq_false_iff.mpr (fun q => c2 (hv ▸ q))
        rw [if_pos c2, y_E_128_166, e]
        exact f167 false
  rw [y_E_128_74, if_neg (by rw [z_w_id (by omega) (by omega)]; omega), s127, e_bI, if_neg (by decide), s0, e_bI, s45, e_bI]
  cases a with
  | none =>
    rw [if_pos (by decide)]
    exact go
  | some a0 =>
    have s46 := s_46 (sp := sp) (ph := ph) (d := d + 2) (m := m) (a := b) (i := a0) (o := r_x L (u_wl w) h) h3 h4
    rw [show u_ai (some a0) = n_b a0 from rfl] at *
    rw [if_neg (by cases a0 <;> decide), s46, e_bI]
    show _ = if r_may lw a0 (r_x L (u_wl w) h) = true then _ else _
    cases r_may lw a0 (r_x L (u_wl w) h)
    · rw [if_pos (by decide), if_neg (by decide)]
      exact e170 m
    · rw [if_neg (by decide), if_pos rfl]
      exact go
end Walk
