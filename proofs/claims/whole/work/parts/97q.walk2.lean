/-! ===== the walk: counting, and the first ===== -/
def u_xsm (si : List Nat → Int) : List (List Nat) → Int
  | [] => 0
  | w :: l => si w + u_xsm si l
theorem u_xsm_app {si : List Nat → Int} : ∀ {l l' : List (List Nat)}, u_xsm si (l ++ l') = u_xsm si l + u_xsm si l'
  | [], l' => by show u_xsm si l' = 0 + _; omega
  | w :: l, l' => by
    show si w + u_xsm si (l ++ l') = si w + u_xsm si l + u_xsm si l'
    rw [u_xsm_app]; omega
theorem n_pop_00 : n_pop 0 = 0 := by decide
section Walk
variable {sp : Nat → Nat} {ph : Bool} {d : Nat} {m m' : y_m} {L lw n b : Nat} {w : List Nat} {P : List (Nat × Nat)} {one : Bool}
def u_bd (L lw : Nat) (P : List (Nat × Nat)) (one : Bool) (k : Nat) (w : List Nat) (rest : Nat) (a : Option Bool) (h : Nat) : List (List Nat) := if u_ma lw a (r_x L (u_wl w) h) then u_go L lw P one k (w ++ [h]) (w_rm rest h) (some (r_x L (u_wl w) h)) (decide (P.length = 0) || u_pr P (u_wl w) h) else []
theorem u_go_succ {k rest : Nat} {a : Option Bool} {free : Bool} : u_go L lw P one (k + 1) w rest a free = (u_hs P rest (u_wl w) free).flatMap (u_bd L lw P one k w rest a) := by
  cases a <;> rfl
theorem n_low_mem {x : Nat} (h : x < 4096) (h0 : x ≠ 0) : n_low x ∈ n_bits x := by
  rw [n_bits_low h (by omega)]; exact List.mem_cons_self
theorem u_hs_mem {rest last h : Nat} {free : Bool} (hh : h ∈ u_hs P rest last free) : h < 12 ∧ rest.testBit h = true := n_bits_mem.mp (List.mem_filter.mp hh).1
theorem u_wl_lt {c : Nat} (hw : w ≠ []) (hb : ∀ x ∈ w, x < c) : u_wl w < c := by
  have hp : 0 < w.length := List.length_pos_iff.mpr hw
  unfold u_wl
  rw [List.getD_eq_getElem?_getD, List.getElem?_eq_getElem (by omega)]; exact hb _ (List.getElem_mem _)
theorem l_128c {pu : Int} {si : List Nat → Int} {c0 : Nat} (hc0 : c0 ≤ 12) (hpu : pu = 0 ∨ pu = 2) (hsi : pu = 2 → ∀ (M : y_m) (w : List Nat), y_mI M b 0 = (L : Int) → q_W M 14 w → w.length = n → (∀ x ∈ w, x < c0) → y_V sp ph (d + 4) 76 [y_bo 8 0 14, y_bo 0 0 b] M = y_rI (si w) M) (h2 : 2 ≤ n) (hn : n ≤ 12) : ∀ (k : Nat) (w : List Nat) (rest : Nat) (a : Option Bool) (free : Bool) (m : y_m), w.length + k = n → w ≠ [] → n_pop rest = k → rest < 4096 → (∀ h, rest.testBit h = true → h < c0) → (∀ x ∈ w, x < c0) → (a = none → w.length < n) → u_xwk m b L lw n P pu → u_wb m n w → ∃ m', y_V sp ph (d + 6 + k) 128 [y_bo 7 0 13, y_bo 0 0 b, y_bi (w.length : Int), y_bi (rest : Int), y_bi (u_ai a), y_bi (n_b free)] m = y_rV m' ∧ q_F (u_wF w.length) m m' ∧ y_mI m' 13 3 = y_mI m 13 3 + ((u_go L lw P (decide (pu ≠ 0)) k w rest a free).length : Int) ∧ y_mI m' 13 4 = y_mI m 13 4 + (if pu = 2 then u_xsm si (u_go L lw P (decide (pu ≠ 0)) k w rest a free) else 0) := by
  intro k
  induction k with
  | zero =>
    intro w rest a free m hk hw hp hr hrc hbc ha hK hB
    have hb : ∀ x ∈ w, x < 12 := fun x hx => Nat.lt_of_lt_of_le (hbc x hx) hc0
    have r0 := n_pop_0 hr hp
    subst r0
    have hpl : 0 < w.length := List.length_pos_iff.mpr hw
    obtain ⟨a0, rfl⟩ : ∃ a0, a = some a0 := by
      cases a with
      | none => exact absurd (ha rfl) (by omega)
      | some a0 => exact ⟨a0, rfl⟩
    have s65 := s_65b (sp := sp) (ph := ph) (d := d + 3) (i := w.length - 1) hB (by omega)
    rw [show ((w.length - 1 : Nat) : Int) = (w.length : Int) - 1 by omega] at s65
    have s65' : y_V sp ph (d + 5) 65 [y_bo 8 0 14, y_bi ((w.length : Int) - 1)] m = y_rI ((u_wl w : Nat) : Int) m := s65
    obtain ⟨m1, r1, r2, r3, r4⟩ := s_129 (sp := sp) (ph := ph) (d := d + 2) (n := n) (a := a0) (pu := pu) (si := si w) hB (by omega) hb hK.1 hK.2.1 hK.2.2.1 hK.2.2.2.1 hK.2.2.2.2.2.2.2.1 (by omega) (fun q M hM => hsi q M w (u_wk_F hK hM).1 (u_wb_W (u_wb_F hB hM (by omega)) (by omega)) (by omega) hbc)
    have r1' : y_V sp ph (d + 5) 129 [y_bo 7 0 13, y_bo 0 0 b, y_bi ((u_wl w : Nat) : Int), y_bi (u_ai (some a0))] m = y_rV m1 := r1
    have eg : u_go L lw P (decide (pu ≠ 0)) 0 w 0 (some a0) free = if u_hm L lw (decide (pu ≠ 0)) w a0 then [w] else [] := rfl
    refine ⟨m1, ?_, q_F_mono r2 (fun a k q => Or.inl q), ?_, ?_⟩
    · rw [Nat.add_zero, y_C_128, y_E_128_0]
      have e65 : y_V sp ph (d + 5) 65 [y_bo 8 0 14, y_bi ((w.length : Int) - 1)] m = _ := s65'
      rw [e65, e_bI, if_pos (by decide), y_E_128_22, r1', e_bV]
    · rw [r3, eg]
      split
      · rfl
      · rfl
    · rw [r4, eg]
      by_cases c : u_hm L lw (decide (pu ≠ 0)) w a0 = true
      · rw [if_pos c]
        by_cases c2 : pu = 2
        · rw [if_pos ⟨c, c2⟩, if_pos c2]
          refine congrArg (fun z => y_mI m 13 4 + z) ?_
          show si w = si w + 0; omega
        · rw [if_neg (fun r => c2 r.2), if_neg c2]
      · rw [if_neg c, if_neg (fun r => c r.1)]
        split <;> rfl
  | succ k ih =>
    intro w rest a free m hk hw hp hr hrc hbc ha hK hB
    have hb : ∀ x ∈ w, x < 12 := fun x hx => Nat.lt_of_lt_of_le (hbc x hx) hc0
    have hlw := u_wl_lt hw hb
    have hr0 : rest ≠ 0 := fun q => by rw [q, n_pop_00] at hp; omega
    obtain ⟨v, op, v1, v2, v3, v4, v5, v6⟩ := s_128a (sp := sp) (ph := ph) (d := d + 4 + k) (a := a) (free := free) hK hB hw hb (by omega) hr hr0
    have inner : ∀ (c op : Nat) (m : y_m), n_pop op = c → op < 4096 → (∀ h ∈ n_bits op, rest.testBit h = true) → u_xwk m b L lw n P pu → u_wb m n w → ∃ m', y_R sp ph (d + 3 + k + 3) 128 74 [some (y_bo 7 0 13), some (y_bo 0 0 b), some (y_bi (w.length : Int)), some (y_bi (rest : Int)), some (y_bi (u_ai a)), none, some (y_bi ((u_wl w : Nat) : Int)), some (y_bi v), none, some (y_bi (op : Int)), none, none] [] m = y_rV m' ∧ q_F (u_wF w.length) m m' ∧ y_mI m' 13 3 = y_mI m 13 3 + (((n_bits op).flatMap (u_bd L lw P (decide (pu ≠ 0)) k w rest a)).length : Int) ∧ y_mI m' 13 4 = y_mI m 13 4 + (if pu = 2 then u_xsm si ((n_bits op).flatMap (u_bd L lw P (decide (pu ≠ 0)) k w rest a)) else 0) := by
      intro c
      induction c with
      | zero =>
        intro op m hop ho hin hK hB
        have o0 := n_pop_0 ho hop
        subst o0
        refine ⟨m, ?_, q_F_refl, ?_, ?_⟩
        · rw [y_E_128_74, if_pos (by decide), y_E_128_182]
        · rw [n_bits_0]; show _ = _ + (0 : Int); omega
        · rw [n_bits_0]
          split
          · show _ = _ + (0 : Int); omega
          · omega
      | succ c ihc =>
        intro op m hop ho hin hK hB
        have ho0 : op ≠ 0 := fun q => by rw [q, n_pop_00] at hop; omega
        have hbl := n_bits_low ho (by omega)
        have hmem := n_low_mem ho ho0
        have lo := w_low ho (by omega)
        have hrb := hin _ hmem
        generalize hh : n_low op = h at *
        have sb := s_128b (sp := sp) (ph := ph) (d := d + 3 + k) (n := n) (a := a) (pu := pu) (v := v) (h := h) hK (by omega) hlw (by omega) hr ho ho0 hh.symm v1 v2 (v3 h)
        have ho' : w_rm op h < 4096 := Nat.lt_of_le_of_lt (w_rm_le _ _) ho
        have hpo := n_pop_rm ho lo.2.2.1
        have hin' : ∀ x ∈ n_bits (w_rm op h), rest.testBit x = true := fun x hx => hin x (by rw [hbl]; exact List.mem_cons_of_mem _ hx)
        rw [sb, hbl, List.flatMap_cons, List.length_append, u_xsm_app]
        by_cases cm : u_ma lw a (r_x L (u_wl w) h) = true
        · have eb : u_bd L lw P (decide (pu ≠ 0)) k w rest a h = u_go L lw P (decide (pu ≠ 0)) k (w ++ [h]) (w_rm rest h) (some (r_x L (u_wl w) h)) (decide (P.length = 0) || u_pr P (u_wl w) h) := by
            unfold u_bd; rw [if_pos cm]
          have hF1 : q_F (u_wF w.length) m (y_sI m 15 w.length (h : Int)) := q_F_sI (by unfold u_wF; omega)
          have hr' : w_rm rest h < 4096 := Nat.lt_of_le_of_lt (w_rm_le _ _) hr
          have hpr := n_pop_rm hr hrb
          have hlen1 : (w ++ [h]).length = w.length + 1 := by simp
          obtain ⟨m1, a1, a2, a3, a4⟩ := ih (w ++ [h]) (w_rm rest h) (some (r_x L (u_wl w) h)) (decide (P.length = 0) || u_pr P (u_wl w) h) (y_sI m 15 w.length (h : Int)) (by rw [hlen1]; omega) (by simp) (by omega) hr' (fun z hz => by rw [w_rm_bit, Bool.and_eq_true] at hz; exact hrc z hz.1) (fun x hx => by
            rcases List.mem_append.mp hx with q | q
            · exact hbc x q
            · rw [List.mem_singleton] at q; rw [q]; exact hrc h hrb) (fun q => by cases q) (u_wk_F hK hF1) (u_wb_sI hB (by omega))
          rw [hlen1] at a1 a2
          have a2' : q_F (u_wF w.length) m m1 := q_F_trans hF1 (q_F_mono a2 (fun x y q => by unfold u_wF at *; omega))
          obtain ⟨m2, b1, b2, b3, b4⟩ := ihc (w_rm op h) m1 (by omega) ho' hin' (u_wk_F hK a2') (u_wb_F hB a2' (Nat.le_refl _))
          refine ⟨m2, ?_, q_F_trans a2' b2, ?_, ?_⟩
          · rw [if_pos cm]
            rw [show d + 6 + k = d + 3 + k + 3 by omega] at a1
            rw [a1, e_bV]
            exact b1
          · rw [b3, a3, e_II' (by omega), eb]; omega
          · rw [b4, a4, e_II' (by omega), eb]
            by_cases c2 : pu = 2
            · rw [if_pos c2, if_pos c2, if_pos c2]; omega
            · rw [if_neg c2, if_neg c2, if_neg c2]; omega
        · have eb : u_bd L lw P (decide (pu ≠ 0)) k w rest a h = [] := by
            unfold u_bd; rw [if_neg cm]
          obtain ⟨m2, b1, b2, b3, b4⟩ := ihc (w_rm op h) m (by omega) ho' hin' hK hB
          refine ⟨m2, ?_, b2, ?_, ?_⟩
          · rw [if_neg cm]
            exact b1
          · rw [b3, eb, List.length_nil]; omega
          · rw [b4, eb]
            show _ = _ + (if pu = 2 then (0 : Int) + _ else 0)
            split <;> omega
    obtain ⟨m2, b1, b2, b3, b4⟩ := inner (n_pop op) op m rfl v4 (fun h hh => (u_hs_mem (by rw [← v5]; exact hh)).2) hK hB
    refine ⟨m2, ?_, b2, ?_, ?_⟩
    · rw [show d + 6 + (k + 1) = d + 4 + k + 3 by omega, v6, show d + 4 + k + 2 = d + 3 + k + 3 by omega]
      exact b1
    · rw [b3, u_go_succ, v5]
    · rw [b4, u_go_succ, v5]
/-- the first way alone -/
theorem l_128f (h2 : 2 ≤ n) (hn : n ≤ 12) : ∀ (k : Nat) (w : List Nat) (rest : Nat) (a : Option Bool) (free : Bool) (m : y_m), w.length + k = n → w ≠ [] → n_pop rest = k → rest < 4096 → (∀ x ∈ w, x < 12) → (a = none → w.length < n) → u_xwk m b L lw n P 1 → u_wb m n w → y_mI m 13 3 = 0 → ∃ m', y_V sp ph (d + 6 + k) 128 [y_bo 7 0 13, y_bo 0 0 b, y_bi (w.length : Int), y_bi (rest : Int), y_bi (u_ai a), y_bi (n_b free)] m = y_rV m' ∧ q_F (u_wF w.length) m m' ∧ ((u_go L lw P true k w rest a free = [] ∧ y_mI m' 13 3 = 0) ∨ ∃ v l, u_go L lw P true k w rest a free = v :: l ∧ y_mI m' 13 3 = 1 ∧ u_wb m' n v ∧ v.length = n) := by
  intro k
  induction k with
  | zero =>
    intro w rest a free m hk hw hp hr hb ha hK hB h0
    have r0 := n_pop_0 hr hp
    subst r0
    have hpl : 0 < w.length := List.length_pos_iff.mpr hw
    obtain ⟨a0, rfl⟩ : ∃ a0, a = some a0 := by
      cases a with
      | none => exact absurd (ha rfl) (by omega)
      | some a0 => exact ⟨a0, rfl⟩
    have s65 := s_65b (sp := sp) (ph := ph) (d := d + 3) (i := w.length - 1) hB (by omega)
    rw [show ((w.length - 1 : Nat) : Int) = (w.length : Int) - 1 by omega] at s65
    have s65' : y_V sp ph (d + 5) 65 [y_bo 8 0 14, y_bi ((w.length : Int) - 1)] m = y_rI ((u_wl w : Nat) : Int) m := s65
    obtain ⟨m1, r1, r2, r3, r4⟩ := s_129 (sp := sp) (ph := ph) (d := d + 2) (n := n) (a := a0) (pu := 1) (si := 0) hB (by omega) hb hK.1 hK.2.1 hK.2.2.1 hK.2.2.2.1 hK.2.2.2.2.2.2.2.1 (by omega) (fun q M hM => by omega)
    have r1' : y_V sp ph (d + 5) 129 [y_bo 7 0 13, y_bo 0 0 b, y_bi ((u_wl w : Nat) : Int), y_bi (u_ai (some a0))] m = y_rV m1 := r1
    have r2' : q_F (u_wF w.length) m m1 := q_F_mono r2 (fun a k q => Or.inl q)
    refine ⟨m1, ?_, r2', ?_⟩
    · rw [Nat.add_zero, y_C_128, y_E_128_0]
      have e65 : y_V sp ph (d + 5) 65 [y_bo 8 0 14, y_bi ((w.length : Int) - 1)] m = _ := s65'
      rw [e65, e_bI, if_pos (by decide), y_E_128_22, r1', e_bV]
    · have eg : u_go L lw P true 0 w 0 (some a0) free = if u_hm L lw true w a0 then [w] else [] := rfl
      rw [eg]
      rw [show decide ((1 : Int) ≠ 0) = true from rfl, h0] at r3
      by_cases c : u_hm L lw true w a0 = true
      · rw [if_pos c] at r3 ⊢
        exact Or.inr ⟨w, [], rfl, r3, u_wb_F hB r2' (Nat.le_refl _), by omega⟩
      · rw [if_neg c] at r3 ⊢
        exact Or.inl ⟨rfl, r3⟩
  | succ k ih =>
    intro w rest a free m hk hw hp hr hb ha hK hB h0
    have hlw := u_wl_lt hw hb
    have hr0 : rest ≠ 0 := fun q => by rw [q, n_pop_00] at hp; omega
    obtain ⟨v, op, v1, v2, v3, v4, v5, v6⟩ := s_128a (sp := sp) (ph := ph) (d := d + 4 + k) (a := a) (free := free) hK hB hw hb (by omega) hr hr0
    have inner : ∀ (c op : Nat) (m : y_m), n_pop op = c → op < 4096 → (∀ h ∈ n_bits op, rest.testBit h = true) → u_xwk m b L lw n P 1 → u_wb m n w → y_mI m 13 3 = 0 → ∃ m', y_R sp ph (d + 3 + k + 3) 128 74 [some (y_bo 7 0 13), some (y_bo 0 0 b), some (y_bi (w.length : Int)), some (y_bi (rest : Int)), some (y_bi (u_ai a)), none, some (y_bi ((u_wl w : Nat) : Int)), some (y_bi v), none, some (y_bi (op : Int)), none, none] [] m = y_rV m' ∧ q_F (u_wF w.length) m m' ∧ (((n_bits op).flatMap (u_bd L lw P true k w rest a) = [] ∧ y_mI m' 13 3 = 0) ∨ ∃ v l, (n_bits op).flatMap (u_bd L lw P true k w rest a) = v :: l ∧ y_mI m' 13 3 = 1 ∧ u_wb m' n v ∧ v.length = n) := by
      intro c
      induction c with
      | zero =>
        intro op m hop ho hin hK hB h0
        have o0 := n_pop_0 ho hop
        subst o0
        refine ⟨m, ?_, q_F_refl, Or.inl ⟨?_, h0⟩⟩
        · rw [y_E_128_74, if_pos (by decide), y_E_128_182]
        · rw [n_bits_0]; rfl
      | succ c ihc =>
        intro op m hop ho hin hK hB h0
        have ho0 : op ≠ 0 := fun q => by rw [q, n_pop_00] at hop; omega
        have hbl := n_bits_low ho (by omega)
        have hmem := n_low_mem ho ho0
        have lo := w_low ho (by omega)
        have hrb := hin _ hmem
        generalize hh : n_low op = h at *
        have sb := s_128b (sp := sp) (ph := ph) (d := d + 3 + k) (n := n) (a := a) (pu := 1) (v := v) (h := h) hK (Or.inr (Or.inr ⟨rfl, h0⟩)) hlw (by omega) hr ho ho0 hh.symm v1 v2 (v3 h)
        have ho' : w_rm op h < 4096 := Nat.lt_of_le_of_lt (w_rm_le _ _) ho
        have hpo := n_pop_rm ho lo.2.2.1
        have hin' : ∀ x ∈ n_bits (w_rm op h), rest.testBit x = true := fun x hx => hin x (by rw [hbl]; exact List.mem_cons_of_mem _ hx)
        rw [sb, hbl, List.flatMap_cons]
        by_cases cm : u_ma lw a (r_x L (u_wl w) h) = true
        · have eb : u_bd L lw P true k w rest a h = u_go L lw P true k (w ++ [h]) (w_rm rest h) (some (r_x L (u_wl w) h)) (decide (P.length = 0) || u_pr P (u_wl w) h) := by
            unfold u_bd; rw [if_pos cm]
          have hF1 : q_F (u_wF w.length) m (y_sI m 15 w.length (h : Int)) := q_F_sI (by unfold u_wF; omega)
          have hr' : w_rm rest h < 4096 := Nat.lt_of_le_of_lt (w_rm_le _ _) hr
          have hpr := n_pop_rm hr hrb
          have hlen1 : (w ++ [h]).length = w.length + 1 := by simp
          obtain ⟨m1, a1, a2, a3⟩ := ih (w ++ [h]) (w_rm rest h) (some (r_x L (u_wl w) h)) (decide (P.length = 0) || u_pr P (u_wl w) h) (y_sI m 15 w.length (h : Int)) (by rw [hlen1]; omega) (by simp) (by omega) hr' (fun x hx => by
            rcases List.mem_append.mp hx with q | q
            · exact hb x q
            · rw [List.mem_singleton] at q; omega) (fun q => by cases q) (u_wk_F hK hF1) (u_wb_sI hB (by omega)) (by rw [e_II' (by omega)]; exact h0)
          rw [hlen1] at a1 a2
          have a2' : q_F (u_wF w.length) m m1 := q_F_trans hF1 (q_F_mono a2 (fun x y q => by unfold u_wF at *; omega))
          have hK1 := u_wk_F hK a2'
          rw [if_pos cm, eb]
          rw [show d + 6 + k = d + 3 + k + 3 by omega] at a1
          rw [a1, e_bV]
          rcases a3 with ⟨g1, g2⟩ | ⟨x, l, g1, g2, g3, g4⟩
          · obtain ⟨m2, b1, b2, b3⟩ := ihc (w_rm op h) m1 (by omega) ho' hin' hK1 (u_wb_F hB a2' (Nat.le_refl _)) g2
            refine ⟨m2, b1, q_F_trans a2' b2, ?_⟩
            rw [g1, List.nil_append]
            exact b3
          · refine ⟨m1, ?_, a2', Or.inr ⟨x, _, by rw [g1]; rfl, g2, g3, g4⟩⟩
            have s127 := s_127t (sp := sp) (ph := ph) (d := d + 3 + k + 2) hK1.2.2.2.2.2.2.2.1 g2
            rw [y_E_128_74]
            by_cases c0 : w_rm op h = 0
            · rw [if_pos (by rw [c0]; decide), y_E_128_182]
            · rw [if_neg (by rw [z_w_id (by omega) (by omega)]; omega), s127, e_bI, if_pos (by decide), y_E_128_182]
        · have eb : u_bd L lw P true k w rest a h = [] := by
            unfold u_bd; rw [if_neg cm]
          obtain ⟨m2, b1, b2, b3⟩ := ihc (w_rm op h) m (by omega) ho' hin' hK hB h0
          refine ⟨m2, ?_, b2, ?_⟩
          · rw [if_neg cm]
            exact b1
          · rw [eb, List.nil_append]; exact b3
    obtain ⟨m2, b1, b2, b3⟩ := inner (n_pop op) op m rfl v4 (fun h hh => (u_hs_mem (by rw [← v5]; exact hh)).2) hK hB h0
    refine ⟨m2, ?_, b2, ?_⟩
    · rw [show d + 6 + (k + 1) = d + 4 + k + 3 by omega, v6, show d + 4 + k + 2 = d + 3 + k + 3 by omega]
      exact b1
    · rw [u_go_succ, ← v5]; exact b3
end Walk
