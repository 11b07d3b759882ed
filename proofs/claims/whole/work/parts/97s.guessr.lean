/-! ===== within, guess: the reference ===== -/
def u_lx (a b : List Nat) : Nat → Nat → Bool
  | 0, _ => false
  | k + 1, i => if a.getD i 0 = b.getD i 0 then u_lx a b k (i + 1) else decide (a.getD i 0 < b.getD i 0)
def u_bs (n : Nat) (o : Option (List Nat)) (w : List Nat) : Option (List Nat) := match o with
  | none => some w
  | some b => if u_lx w b n 0 then some w else some b
/-- lawful all around -/
def u_lb (L lw : Nat) (w : List Nat) : Nat → Nat → Bool
  | 0, _ => true
  | k + 1, i => r_may lw (q_ac L w ((i : Int) - 1)) (q_ac L w (i : Int)) && u_lb L lw w k (i + 1)
def u_la (L lw : Nat) (w : List Nat) : Bool := u_lb L lw w w.length 0
def u_rl (P : List (Nat × Nat)) : Nat → Nat → List Nat → List (List Nat)
  | 0, _, w => [w]
  | k + 1, used, w => (List.range' 0 P.length).flatMap (fun i => if used.testBit i then [] else u_rl P k (used ||| 2 ^ i) (w ++ [(P.getD i (0, 0)).1, (P.getD i (0, 0)).2]) ++ u_rl P k (used ||| 2 ^ i) (w ++ [(P.getD i (0, 0)).2, (P.getD i (0, 0)).1]))
/-- what is found so far: how many, the least -/
def u_gs (m : y_m) (n c : Nat) (o : Option (List Nat)) : Prop := y_mI m 49 43 = (c : Int) ∧ c < 1000000000 ∧ (o = none ↔ c = 0) ∧ ∀ b, o = some b → b.length = n ∧ (∀ x ∈ b, x < 12) ∧ ∀ i, i < n → y_mI m 97 i = ((b.getD i 0 : Nat) : Int)
def u_hF (p a k : Nat) : Prop := a = 97 ∨ a = 98 ∨ (a = 49 ∧ k = 43) ∨ (a = 102 ∧ p ≤ k)
def u_xwr (m : y_m) (w : List Nat) : Prop := ∀ i, i < w.length → y_mI m 102 i = ((w.getD i 0 : Nat) : Int)
section Guess
variable {sp : Nat → Nat} {ph : Bool} {d : Nat} {m m' : y_m} {L R A B t lw X n b c : Nat} {w : List Nat} {P : List (Nat × Nat)} {o : Option (List Nat)}
theorem l_277 {a b : List Nat} (ha : ∀ x ∈ a, x < 12) (hb : ∀ x ∈ b, x < 12) (la : a.length = n) (lb : b.length = n) (hn : n ≤ 12) (h98 : ∀ i, i < n → y_mI m 98 i = ((a.getD i 0 : Nat) : Int)) (h97 : ∀ i, i < n → y_mI m 97 i = ((b.getD i 0 : Nat) : Int)) : ∀ (k i : Nat), i + k = n → y_R sp ph d 277 2 [some (y_bo 11 0 49), some (y_bi (n : Int)), some (y_bi (i : Int))] [] m = y_rI (n_b (u_lx a b k i)) m := by
  intro k
  induction k with
  | zero =>
    intro i hi
    rw [y_E_277_2, if_pos (by rw [z_w_id (by omega) (by omega), z_w_id (by omega) (by omega)]; omega), y_E_277_49]; rfl
  | succ k ih =>
    intro i hi
    have ga : a.getD i 0 < 12 := by rw [List.getD_eq_getElem?_getD, List.getElem?_eq_getElem (by omega)]; exact ha _ (List.getElem_mem _)
    have gb : b.getD i 0 < 12 := by rw [List.getD_eq_getElem?_getD, List.getElem?_eq_getElem (by omega)]; exact hb _ (List.getElem_mem _)
    rw [y_E_277_2, if_neg (by rw [z_w_id (by omega) (by omega), z_w_id (by omega) (by omega)]; omega), e_g ⟨by omega, by omega⟩, e_g ⟨by omega, by omega⟩, Int.toNat_natCast, h98 i (by omega), h97 i (by omega), u_lx, z_w_id (by omega) (by omega), z_w_id (by omega) (by omega)]
    by_cases q : a.getD i 0 = b.getD i 0
    · rw [if_pos (by omega), if_pos q, y_E_277_43, show (i : Int) + 1 = ((i + 1 : Nat) : Int) by omega]
      exact ih (i + 1) (by omega)
    · rw [if_neg (by omega), if_neg q, e_g ⟨by omega, by omega⟩, e_g ⟨by omega, by omega⟩]
      by_cases q2 : a.getD i 0 < b.getD i 0
      · rw [if_neg (by omega), y_E_277_42, e_g (by omega), decide_eq_true q2]; rfl
      · rw [if_pos (by omega), y_E_277_41, y_E_277_42, e_g (by omega), decide_eq_false q2]; rfl
theorem l_276a (hw : u_xwr m w) (hn : w ≠ []) (hl : w.length ≤ 12) (hb : ∀ x ∈ w, x < 12) (hL : y_mI m 52 0 = (L : Int)) (h6 : L ≤ 6) (hlw : y_mI m 52 4 = (lw : Int)) (h2 : lw ≤ 2) : ∀ (k i : Nat), i + k = w.length → y_R sp ph (d + 2) 276 12 [some (y_bo 11 0 49), none, some (y_bi (w.length : Int)), some (y_bi (i : Int)), none] [] m = if u_lb L lw w k i then y_R sp ph (d + 2) 276 73 [some (y_bo 11 0 49), none, some (y_bi (w.length : Int)), none, none] [] m else y_rV m := by
  have hlen : 0 < w.length := List.length_pos_iff.mpr hn
  intro k
  induction k with
  | zero =>
    intro i hi
    rw [y_E_276_12, if_pos (by rw [z_w_id (by omega) (by omega), z_w_id (by omega) (by omega)]; omega), u_lb, if_pos rfl]
  | succ k ih =>
    intro i hi
    have r1 : z_irem ((i : Int) + (w.length : Int) - 1) (w.length : Int) = ((i : Int) + (w.length : Int) - 1) % (w.length : Int) := n_irem (by omega) (by omega) (by omega) (by omega)
    have r2 : z_irem ((i : Int) + 1) (w.length : Int) = ((i : Int) + 1) % (w.length : Int) := n_irem (by omega) (by omega) (by omega) (by omega)
    have m1 := Int.emod_nonneg ((i : Int) + (w.length : Int) - 1) (show (w.length : Int) ≠ 0 by omega)
    have m2 := Int.emod_lt_of_pos ((i : Int) + (w.length : Int) - 1) (show (0 : Int) < (w.length : Int) by omega)
    have m3 := Int.emod_nonneg ((i : Int) + 1) (show (w.length : Int) ≠ 0 by omega)
    have m4 := Int.emod_lt_of_pos ((i : Int) + 1) (show (0 : Int) < (w.length : Int) by omega)
    have g1 : y_mI m 102 (((i : Int) + (w.length : Int) - 1) % (w.length : Int)).toNat = (q_at w ((i : Int) - 1) : Nat) := by rw [q_at_pred (i : Int) hn]; exact hw _ (by omega)
    have g2 : y_mI m 102 (((i : Int) + 1) % (w.length : Int)).toNat = (q_at w ((i : Int) + 1) : Nat) := q_at_get hw hn _
    have g0 : y_mI m 102 i = ((q_at w (i : Int) : Nat) : Int) := by rw [q_at_nat (by omega)]; exact hw i (by omega)
    have q1 := hb _ (q_at_mem (w := w) (i := (i : Int) - 1) hn)
    have q2 := hb _ (q_at_mem (w := w) (i := (i : Int)) hn)
    have q3 := hb _ (q_at_mem (w := w) (i := (i : Int) + 1) hn)
    have t211a := t_211 (sp := sp) (ph := ph) (d := d) (m := m) (x := q_at w ((i : Int) - 1)) (y := q_at w (i : Int)) hL h6 (by omega) (by omega)
    have t211b := t_211 (sp := sp) (ph := ph) (d := d) (m := m) (x := q_at w (i : Int)) (y := q_at w ((i : Int) + 1)) hL h6 (by omega) (by omega)
    have ea : r_x L (q_at w ((i : Int) - 1)) (q_at w (i : Int)) = q_ac L w ((i : Int) - 1) := by
      unfold q_ac
      rw [show (i : Int) - 1 + 1 = (i : Int) by omega]
    have eb : r_x L (q_at w (i : Int)) (q_at w ((i : Int) + 1)) = q_ac L w (i : Int) := rfl
    rw [ea] at t211a
    rw [eb] at t211b
    have t227 := t_227 (sp := sp) (ph := ph) (d := d + 1) (m := m) (lw := lw) (i := q_ac L w ((i : Int) - 1)) (o := q_ac L w (i : Int)) hlw h2
    have zl : z_w (w.length : Int) ≠ 0 := by rw [z_w_id (by omega) (by omega)]; omega
    rw [y_E_276_12, if_neg (by rw [z_w_id (by omega) (by omega), z_w_id (by omega) (by omega)]; omega), e_g zl, r1, e_g ⟨m1, by omega⟩, e_g ⟨by omega, by omega⟩, Int.toNat_natCast, g1, g0, t211a, e_bI, e_g ⟨by omega, by omega⟩, e_g zl, r2, e_g ⟨m3, by omega⟩, g0, g2, t211b, e_bI, t227, e_bI, u_lb]
    cases r_may lw (q_ac L w ((i : Int) - 1)) (q_ac L w (i : Int))
    · rw [if_neg (by decide), Bool.false_and, if_neg (by decide)]
    · rw [if_pos (by decide), Bool.true_and, y_E_276_67, show (i : Int) + 1 = ((i + 1 : Nat) : Int) by omega]
      exact ih (i + 1) (by omega)
theorem l_276b {a : List Nat} (hn : n ≤ 12) (la : a.length = n) : ∀ (k i : Nat) (m : y_m), i + k = n → (∀ j, j < n → y_mI m 98 j = ((a.getD j 0 : Nat) : Int)) → (∀ j, j < i → y_mI m 97 j = ((a.getD j 0 : Nat) : Int)) → ∃ m', y_R sp ph (d + 2) 276 99 [some (y_bo 11 0 49), none, some (y_bi (n : Int)), some (y_bi (i : Int)), none] [] m = y_R sp ph (d + 2) 276 122 [some (y_bo 11 0 49), none, none, none, none] [] m' ∧ q_F (fun a _ => a = 97) m m' ∧ ∀ j, j < n → y_mI m' 97 j = ((a.getD j 0 : Nat) : Int) := by
  intro k
  induction k with
  | zero =>
    intro i m hi h98 h97
    exact ⟨m, by rw [y_E_276_99, if_pos (by rw [z_w_id (by omega) (by omega), z_w_id (by omega) (by omega)]; omega)], q_F_refl, fun j hj => h97 j (by omega)⟩
  | succ k ih =>
    intro i m hi h98 h97
    have e := h98 i (by omega)
    have F1 : q_F (fun a _ => a = 97) m (y_sI m 97 i (y_mI m 98 i)) := q_F_sI rfl
    obtain ⟨m2, r1, r2, r3⟩ := ih (i + 1) (y_sI m 97 i (y_mI m 98 i)) (by omega) (fun j hj => by rw [e_II' (by omega)]; exact h98 j hj) (fun j hj => by
      by_cases c : j = i
      · subst c; rw [e_II, e]
      · rw [e_II' (by omega)]; exact h97 j (by omega))
    refine ⟨m2, ?_, q_F_trans F1 r2, r3⟩
    rw [y_E_276_99, if_neg (by rw [z_w_id (by omega) (by omega), z_w_id (by omega) (by omega)]; omega), e_g ⟨by omega, by omega⟩, e_g ⟨by omega, by omega⟩, Int.toNat_natCast, show (i : Int) + 1 = ((i + 1 : Nat) : Int) by omega]
    exact r1
theorem q_own_lt (hn : w ≠ []) (hb : ∀ x ∈ w, x < 12) : ∀ x ∈ q_own w, x < 12 := fun x hx => by
  unfold q_own at hx
  rw [List.mem_map] at hx
  obtain ⟨j, -, rfl⟩ := hx
  exact hb _ (q_at_mem hn)
/-- all holes are told -/
theorem l_276h (hG : u_gs m n c o) (hc : c < 999999999) (hw : u_xwr m w) (hl : w.length = n) (hn3 : 1 ≤ n) (hn : n ≤ 12) (hb : ∀ x ∈ w, x < 12) (hL : y_mI m 52 0 = (L : Int)) (h6 : L ≤ 6) (hlw : y_mI m 52 4 = (lw : Int)) (h2 : lw ≤ 2) : ∃ m', y_R sp ph (d + 2) 276 12 [some (y_bo 11 0 49), none, some (y_bi (n : Int)), some (y_bi 0), none] [] m = y_rV m' ∧ q_F (u_hF 12) m m' ∧ u_gs m' n (if u_la L lw w then c + 1 else c) (if u_la L lw w then u_bs n o (q_own w) else o) := by
  have hne : w ≠ [] := fun q => by rw [q] at hl; simp at hl; omega
  have la := l_276a (sp := sp) (ph := ph) (d := d) hw hne (by omega) hb hL h6 hlw h2 w.length 0 (by omega)
  have la' : y_R sp ph (d + 2) 276 12 [some (y_bo 11 0 49), none, some (y_bi (w.length : Int)), some (y_bi 0), none] [] m = if u_la L lw w then y_R sp ph (d + 2) 276 73 [some (y_bo 11 0 49), none, some (y_bi (w.length : Int)), none, none] [] m else y_rV m := la
  rw [hl] at la'
  rw [la']
  by_cases cl : u_la L lw w = true
  · rw [if_pos cl, if_pos cl, if_pos cl]
    obtain ⟨m1, a1, a2, a3⟩ := t_247 (sp := sp) (ph := ph) (d := d + 1) (a := 102) (w := w) (by omega) hne (by omega) hb hw
    rw [hl] at a1
    have F1 : q_F (u_hF 12) m m1 := q_F_mono a2 (fun a k q => by unfold u_hF; omega)
    have h98 : ∀ j, j < n → y_mI m1 98 j = (((q_own w).getD j 0 : Nat) : Int) := fun j hj => by rw [q_own_get (by omega)]; exact a3 j (by omega)
    have lo : (q_own w).length = n := by rw [q_own_len]; exact hl
    have bo := q_own_lt hne hb
    obtain ⟨g1, g2, g3, g4⟩ := hG
    have e43 : y_mI m1 49 43 = (c : Int) := by rw [q_F_I a2 49 43 (by omega)]; exact g1
    have cp : ∃ m', y_R sp ph (d + 2) 276 97 [some (y_bo 11 0 49), none, some (y_bi (n : Int)), none, none] [] m1 = y_rV m' ∧ q_F (u_hF 12) m1 m' ∧ u_gs m' n (c + 1) (some (q_own w)) := by
      obtain ⟨m2, r1, r2, r3⟩ := l_276b (sp := sp) (ph := ph) (d := d) hn lo n 0 m1 (by omega) h98 (fun j hj => absurd hj (Nat.not_lt_zero j))
      have r1' : y_R sp ph (d + 2) 276 99 [some (y_bo 11 0 49), none, some (y_bi (n : Int)), some (y_bi 0), none] [] m1 = _ := r1
      have e43' : y_mI m2 49 43 = (c : Int) := by rw [q_F_I r2 49 43 (by omega)]; exact e43
      refine ⟨_, by rw [y_E_276_97, r1', y_E_276_122], q_F_trans (q_F_mono r2 (fun a k q => by unfold u_hF; omega)) (q_F_sI (by unfold u_hF; omega)), ?_, by omega, ?_, fun b hb => ?_⟩
      · rw [e_II, e43']; omega
      · exact ⟨fun q => (by cases q), fun q => (by omega)⟩
      · cases hb
        exact ⟨lo, bo, fun i hi => by rw [e_II' (by omega)]; exact r3 i hi⟩
    rw [y_E_276_73, a1, e_bV, e43]
    cases o with
    | none =>
      have c0 := g3.mp rfl
      rw [if_pos (by rw [c0]; decide)]
      obtain ⟨m2, r1, r2, r3⟩ := cp
      exact ⟨m2, r1, q_F_trans F1 r2, r3⟩
    | some b =>
      have c0 : c ≠ 0 := fun q => by have := g3.mpr q; cases this
      obtain ⟨b1, b2, b3⟩ := g4 b rfl
      have t277 := l_277 (sp := sp) (ph := ph) (d := d + 1) (m := m1) (n := n) bo b2 lo b1 hn h98 (fun i hi => by rw [q_F_I a2 97 i (by omega)]; exact b3 i hi) n 0 (by omega)
      have t277' : y_V sp ph (d + 2) 277 [y_bo 11 0 49, y_bi (n : Int)] m1 = y_rI (n_b (u_lx (q_own w) b n 0)) m1 := by rw [y_C_277, y_E_277_0]; exact t277
      rw [if_neg (by rw [z_w_id (by omega) (by omega)]; omega), t277', e_bI]
      unfold u_bs
      cases hx : u_lx (q_own w) b n 0
      · rw [if_pos (by decide), y_E_276_122]
        refine ⟨_, rfl, q_F_trans F1 (q_F_sI (by unfold u_hF; omega)), ?_, by omega, ?_, fun b' hb' => ?_⟩
        · rw [e_II, e43]; omega
        · exact ⟨fun q => by simp [hx] at q, fun q => by omega⟩
        · simp [hx] at hb'
          subst hb'
          exact ⟨b1, b2, fun i hi => by rw [e_II' (by omega), q_F_I a2 97 i (by omega)]; exact b3 i hi⟩
      · rw [if_neg (by decide)]
        obtain ⟨m2, r1, r2, r3⟩ := cp
        refine ⟨m2, r1, q_F_trans F1 r2, ?_⟩
        simp only [hx, if_true]
        exact r3
  · rw [if_neg cl, if_neg cl, if_neg cl]
    exact ⟨m, rfl, q_F_refl, hG⟩
end Guess
