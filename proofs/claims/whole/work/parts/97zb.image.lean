/-! ===== alike, itself: images of an even boot, the class ===== -/
def u_ih (L : Nat) (b1 b2 : Bool) (h : Nat) : Nat := (if (decide (h < L) != b2) = true then 0 else L) + (if b1 then L - 1 - r_row L h else r_row L h)
def u_ol (L : Nat) (w : List Nat) (b1 b2 : Bool) (f D : Int) : Nat → Nat → Bool
  | 0, _ => true
  | k + 1, i => decide (q_at w (f + D * (i : Int)) = u_ih L b1 b2 (q_at w (i : Int))) && u_ol L w b1 b2 f D k (i + 1)
def u_oD (L : Nat) (w : List Nat) (b1 b2 : Bool) : Int := if q_at w (q_find w (u_ih L b1 b2 (q_at w 0)) + 1) = u_ih L b1 b2 (q_at w 1) then 1 else -1
def u_oi (L : Nat) (w : List Nat) (b1 b2 : Bool) : Bool := if q_find w (u_ih L b1 b2 (q_at w 0)) = -1 then false else u_ol L w b1 b2 (q_find w (u_ih L b1 b2 (q_at w 0))) (u_oD L w b1 b2) (w.length - 1) 1
def u_si (L : Nat) (w : List Nat) : Int := 1 + n_b (u_oi L w true false) + n_b (u_oi L w false true) + n_b (u_oi L w true true)
theorem u_ih_lt {L h : Nat} {b1 b2 : Bool} (hh : h < L + L) : u_ih L b1 b2 h < L + L := by
  unfold u_ih r_row
  by_cases c : h < L <;> cases b1 <;> cases b2 <;> simp [c] <;> omega
theorem q_find_b {w : List Nat} {x : Nat} : -1 ≤ q_find w x ∧ q_find w x < w.length ∨ w = [] ∧ q_find w x = -1 := by
  unfold q_find
  by_cases c : x ∈ w
  · rw [if_pos c]
    have := List.idxOf_lt_length_iff.mpr c
    exact Or.inl ⟨by omega, by omega⟩
  · rw [if_neg c]
    by_cases e : w = []
    · exact Or.inr ⟨e, rfl⟩
    · have := List.length_pos_iff.mpr e
      exact Or.inl ⟨by omega, by omega⟩
section Image
variable {sp : Nat → Nat} {ph : Bool} {d : Nat} {m m' : y_m} {L R A B t lw X a b : Nat} {w : List Nat} {b1 b2 : Bool}
theorem s_47 {h : Nat} (hL : y_mI m b 0 = (L : Int)) (h6 : L ≤ 6) (hh : h < L + L) : y_V sp ph (d + 1) 47 [y_bo 0 0 b, y_bi (h : Int), y_bi (n_b b1), y_bi (n_b b2)] m = y_rI (u_ih L b1 b2 h : Int) m := by
  have fin : ∀ (xs : Int) (s : Int), y_R sp ph d 47 39 [some (y_bo 0 0 b), none, some (y_bi (n_b b1)), none, none, some (y_bi s), none] [y_bi xs] m = y_rI (xs * (L : Int) + (if b1 then (L : Int) - 1 - s else s)) m := fun xs s => by
    rw [y_E_47_39, hL]
    cases b1
    · rw [if_pos (by decide), y_E_47_64, y_E_47_66, if_neg (by decide)]
    · rw [if_neg (by decide), y_E_47_66, if_pos rfl]
  have mid : ∀ xs : Nat, xs ≤ 1 → y_R sp ph d 47 13 [some (y_bo 0 0 b), some (y_bi (h : Int)), some (y_bi (n_b b1)), some (y_bi (n_b b2)), none, none, none] [y_bi (xs : Int)] m = y_rI ((if b2 then 1 - (xs : Int) else (xs : Int)) * (L : Int) + (if b1 then (L : Int) - 1 - ((h : Int) - (xs : Int) * (L : Int)) else (h : Int) - (xs : Int) * (L : Int))) m := fun xs hx => by
    rw [y_E_47_13, hL]
    cases b2
    · rw [if_pos (by decide), y_E_47_37, fin, if_neg (show ¬ (false = true) by decide)]
    · rw [if_neg (by decide), fin, if_pos rfl]
  rw [y_C_47, y_E_47_0, hL]
  by_cases c : h < L
  · have m0 := mid 0 (by omega)
    rw [if_neg (by rw [z_w_id (by omega) (by omega), z_w_id (by omega) (by omega)]; omega)]
    refine (show _ = _ from m0).trans (congrArg (fun z => y_rI z m) ?_)
    unfold u_ih r_row
    rw [decide_eq_true c, if_pos c]
    cases b1 <;> cases b2 <;> simp <;> omega
  · have m1 := mid 1 (by omega)
    rw [if_pos (by rw [z_w_id (by omega) (by omega), z_w_id (by omega) (by omega)]; omega), y_E_47_12]
    refine (show _ = _ from m1).trans (congrArg (fun z => y_rI z m) ?_)
    unfold u_ih r_row
    rw [decide_eq_false c, if_neg c]
    cases b1 <;> cases b2 <;> simp <;> omega
theorem l_77 {f D : Int} (hW : q_W m a w) (hn : w ≠ []) (hL : y_mI m b 0 = (L : Int)) (h6 : L ≤ 6) (hb : ∀ h ∈ w, h < L + L) (hf : 0 ≤ f) (hf' : f < 12) (hD : D = 1 ∨ D = -1) : ∀ (k i : Nat), i + k = w.length → y_R sp ph (d + 2) 77 61 [some (y_bo 8 0 a), some (y_bo 0 0 b), some (y_bi (n_b b1)), some (y_bi (n_b b2)), some (y_bi f), none, some (y_bi D), some (y_bi (i : Int))] [] m = y_rI (n_b (u_ol L w b1 b2 f D k i)) m := by
  have hl := hW.2.1
  intro k
  induction k with
  | zero =>
    intro i hi
    rw [y_E_77_61, hW.1, if_pos (by rw [z_w_id (by omega) (by omega), z_w_id (by omega) (by omega)]; omega), y_E_77_105]; rfl
  | succ k ih =>
    intro i hi
    have hr : -32 ≤ f + D * (i : Int) ∧ f + D * (i : Int) < 32 := by
      rcases hD with rfl | rfl <;> omega
    have q1 := hb _ (q_at_mem (w := w) (i := f + D * (i : Int)) hn)
    have q2 := hb _ (q_at_mem (w := w) (i := (i : Int)) hn)
    have s65a := s_65 (sp := sp) (ph := ph) (d := d) (m := m) (a := a) (w := w) (i := f + D * (i : Int)) hW hn hr.1 hr.2
    have s65b := s_65 (sp := sp) (ph := ph) (d := d) (m := m) (a := a) (w := w) (i := (i : Int)) hW hn (by omega) (by omega)
    have s47 := s_47 (sp := sp) (ph := ph) (d := d + 1) (m := m) (b := b) (b1 := b1) (b2 := b2) hL h6 q2
    have q3 := u_ih_lt (b1 := b1) (b2 := b2) q2
    rw [y_E_77_61, hW.1, if_neg (by rw [z_w_id (by omega) (by omega), z_w_id (by omega) (by omega)]; omega), s65a, e_bI, s65b, e_bI, s47, e_bI, u_ol, z_w_id (by omega) (by omega), z_w_id (by omega) (by omega)]
    by_cases c : q_at w (f + D * (i : Int)) = u_ih L b1 b2 (q_at w (i : Int))
    · rw [if_pos (by omega), decide_eq_true c, Bool.true_and, y_E_77_99, show (i : Int) + 1 = ((i + 1 : Nat) : Int) by omega]
      exact ih (i + 1) (by omega)
    · rw [if_neg (by omega), decide_eq_false c]; rfl
theorem s_77 (hW : q_W m a w) (hn : w ≠ []) (hL : y_mI m b 0 = (L : Int)) (h6 : L ≤ 6) (hb : ∀ h ∈ w, h < L + L) : y_V sp ph (d + 3) 77 [y_bo 8 0 a, y_bo 0 0 b, y_bi (n_b b1), y_bi (n_b b2)] m = y_rI (n_b (u_oi L w b1 b2)) m := by
  have hl := hW.2.1
  have hp : 0 < w.length := List.length_pos_iff.mpr hn
  have q0 := hb _ (q_at_mem (w := w) (i := 0) hn)
  have q1 := hb _ (q_at_mem (w := w) (i := 1) hn)
  have i0 := u_ih_lt (b1 := b1) (b2 := b2) q0
  have i1 := u_ih_lt (b1 := b1) (b2 := b2) q1
  have s65a := s_65 (sp := sp) (ph := ph) (d := d) (m := m) (a := a) (w := w) (i := 0) hW hn (by omega) (by omega)
  have s65b := s_65 (sp := sp) (ph := ph) (d := d) (m := m) (a := a) (w := w) (i := 1) hW hn (by omega) (by omega)
  have s47a := s_47 (sp := sp) (ph := ph) (d := d + 1) (m := m) (b := b) (b1 := b1) (b2 := b2) hL h6 q0
  have s47b := s_47 (sp := sp) (ph := ph) (d := d + 1) (m := m) (b := b) (b1 := b1) (b2 := b2) hL h6 q1
  have s68 := s_68 (sp := sp) (ph := ph) (d := d) (m := m) (a := a) (w := w) (x := u_ih L b1 b2 (q_at w 0)) hW (fun h hh => by have := hb h hh; omega) (by omega)
  unfold u_oi u_oD
  rw [y_C_77, y_E_77_0, s65a, e_bI, s47a, e_bI, s68, e_bI]
  have fb := q_find_b (w := w) (x := u_ih L b1 b2 (q_at w 0))
  have fb' : -1 ≤ q_find w (u_ih L b1 b2 (q_at w 0)) ∧ q_find w (u_ih L b1 b2 (q_at w 0)) < w.length := fb.elim id (fun q => absurd q.1 hn)
  generalize q_find w (u_ih L b1 b2 (q_at w 0)) = f at *
  by_cases c : f = -1
  · rw [if_neg (by rw [c]; decide), if_pos c]; rfl
  · have q2 := hb _ (q_at_mem (w := w) (i := f + 1) hn)
    have s65c := s_65 (sp := sp) (ph := ph) (d := d) (m := m) (a := a) (w := w) (i := f + 1) hW hn (by omega) (by omega)
    have lp : ∀ D : Int, (D = 1 ∨ D = -1) → y_R sp ph (d + 2) 77 56 [some (y_bo 8 0 a), some (y_bo 0 0 b), some (y_bi (n_b b1)), some (y_bi (n_b b2)), some (y_bi f), none, none, none] [y_bi D] m = y_rI (n_b (u_ol L w b1 b2 f D (w.length - 1) 1)) m := fun D hD => by
      rw [y_E_77_56]
      exact l_77 hW hn hL h6 hb (by omega) (by omega) hD (w.length - 1) 1 (by omega)
    rw [if_pos (by rw [z_w_id (by omega) (by omega)]; omega), if_neg c, y_E_77_25, s65b, e_bI, s47b, e_bI, s65c, e_bI, z_w_id (by omega) (by omega), z_w_id (by omega) (by omega)]
    by_cases c2 : q_at w (f + 1) = u_ih L b1 b2 (q_at w 1)
    · rw [if_neg (by omega), if_pos c2]
      exact lp 1 (Or.inl rfl)
    · rw [if_pos (by omega), if_neg c2, y_E_77_55]
      exact lp (-1) (Or.inr rfl)
theorem s_76 (hW : q_W m a w) (hn : w ≠ []) (hL : y_mI m b 0 = (L : Int)) (h6 : L ≤ 6) (hb : ∀ h ∈ w, h < L + L) : y_V sp ph (d + 4) 76 [y_bo 8 0 a, y_bo 0 0 b] m = y_rI (u_si L w) m := by
  have a1 : y_V sp ph (d + 3) 77 [y_bo 8 0 a, y_bo 0 0 b, y_bi 1, y_bi 0] m = y_rI (n_b (u_oi L w true false)) m := s_77 (b1 := true) (b2 := false) hW hn hL h6 hb
  have a2 : y_V sp ph (d + 3) 77 [y_bo 8 0 a, y_bo 0 0 b, y_bi 0, y_bi 1] m = y_rI (n_b (u_oi L w false true)) m := s_77 (b1 := false) (b2 := true) hW hn hL h6 hb
  have a3 : y_V sp ph (d + 3) 77 [y_bo 8 0 a, y_bo 0 0 b, y_bi 1, y_bi 1] m = y_rI (n_b (u_oi L w true true)) m := s_77 (b1 := true) (b2 := true) hW hn hL h6 hb
  unfold u_si
  rw [y_C_76, y_E_76_0, a1, e_bI]
  have st : ∀ x : Int, y_R sp ph (d + 3) 76 15 [some (y_bo 8 0 a), some (y_bo 0 0 b), some (y_bi x)] [] m = y_rI (x + n_b (u_oi L w false true) + n_b (u_oi L w true true)) m := fun x => by
    have st2 : ∀ x : Int, y_R sp ph (d + 3) 76 28 [some (y_bo 8 0 a), some (y_bo 0 0 b), some (y_bi x)] [] m = y_rI (x + n_b (u_oi L w true true)) m := fun x => by
      rw [y_E_76_28, a3, e_bI]
      cases u_oi L w true true
      · rw [if_pos (by decide), y_E_76_41, show n_b false = 0 from rfl, Int.add_zero]
      · rw [if_neg (by decide), y_E_76_41]; rfl
    rw [y_E_76_15, a2, e_bI]
    cases u_oi L w false true
    · rw [if_pos (by decide), st2, show n_b false = 0 from rfl, Int.add_zero]
    · rw [if_neg (by decide), st2]; rfl
  cases u_oi L w true false
  · rw [if_pos (by decide), st, show n_b false = 0 from rfl, Int.add_zero]
  · rw [if_neg (by decide), st]; rfl
theorem s_153n (hK : c_K m L R A B t lw X []) : y_V sp true (d + 2) 153 [y_bo 10 0 0] m = some (.inr 2, y_tm m) := by
  have s171 := s_171n (sp := sp) (d := d) (m := m) hK.2.2.2.2.2.2.2.2.2.2.2.2.2.2.1
  rw [y_C_153, y_E_153_0, s171]; rfl
/-- itself, to the class -/
theorem s_153 (hK : c_K m L R A B t lw X w) (hn : w ≠ []) : y_V sp ph (d + 5) 153 [y_bo 10 0 0] m = y_rI (if L = R ∧ t = 0 then u_si L w else -1) m := by
  have hb := u_w12 hK
  have s171 := s_171y (sp := sp) (ph := ph) (d := d + 3) (m := m) hK.W hn
  have s42 := s_42 (sp := sp) (ph := ph) (d := d + 3) (m := m) (a := y_mc m) hK.eL hK.eR hK.et hK.l6 hK.r6 hK.t4
  rw [y_C_153, y_E_153_0, s171, e_bV, s42, e_bI]
  by_cases c : L = R ∧ t = 0
  · have s76 := s_76 (sp := sp) (ph := ph) (d := d) (m := m) (a := 23) (b := y_mc m) (L := L) hK.W hn hK.eL hK.l6 (fun h hh => by have := hb h hh; omega)
    rw [decide_eq_true c, if_neg (by decide), s76, e_bI, y_E_153_32, if_pos c]
  · rw [decide_eq_false c, if_pos (by decide), y_E_153_31, y_E_153_32, if_neg c]
end Image
