/-! ===== knot, to the class ===== -/
def u_kc (g : Nat → Int) (T Y : Int) (last : Bool) : Nat → Nat → Int → Int → Int
  | 0, _, _, x => x
  | k + 1, i, S, x => u_kc g T Y last k (i + 1) (S + g i) (if ¬ (Y + 64 < S - (T - S)) ∧ ¬ ((S + g i) - (T - (S + g i)) + 64 < - Y) ∧ (last = true ∨ x = -1) then (i : Int) else x)
section Knot
variable {sp : Nat → Nat} {ph : Bool} {d : Nat} {m m' : y_m} {L R A B a b : Nat} {w : List Nat} {T Y : Int} {last : Bool}
theorem l_60 (hw : q_W m a w) (hn : w ≠ []) (hb : ∀ h ∈ w, h < L + R) (hL : y_mI m b 0 = (L : Int)) (h1 : L ≤ 6) (h2 : R ≤ 6) (hB : y_mI m 3 2 = (B : Int)) (hB' : B ≤ 99) (hg : ∀ i, i < w.length → 0 ≤ q_len (y_mJ m 4) L B w i ∧ q_len (y_mJ m 4) L B w i ≤ 288230376151800000) (hT : 0 ≤ T ∧ T ≤ 3458764513821600000) (hY : 0 ≤ Y ∧ Y ≤ 700000000000000000) : ∀ (k i : Nat) (S x : Int), i + k = w.length → 0 ≤ S → S ≤ 288230376151800000 * (i : Int) → -1 ≤ x → x ≤ 12 → y_R sp ph (d + 3) 60 28 [some (y_bo 4 0 3), some (y_bo 0 0 b), some (y_bo 8 0 a), none, some (y_bi (n_b last)), some (y_bl T), none, some (y_bl Y), none, some (y_bl S), none, some (y_bi x), some (y_bi (i : Int)), none, none, none, none] [] m = y_rI (u_kc (q_len (y_mJ m 4) L B w) T Y last k i S x) m := by
  have hl := hw.2.1
  intro k
  induction k with
  | zero =>
    intro i S x hi h3 h4 h5 h6
    rw [y_E_60_28, hw.1, if_pos (by rw [z_w_id (by omega) (by omega), z_w_id (by omega) (by omega)]; omega), y_E_60_127]; rfl
  | succ k ih =>
    intro i S x hi h3 h4 h5 h6
    have s65a := s_65 (sp := sp) (ph := ph) (d := d + 1) (i := (i : Int)) hw hn (by omega) (by omega)
    have s65b := s_65 (sp := sp) (ph := ph) (d := d + 1) (i := (i : Int) + 1) hw hn (by omega) (by omega)
    have g1 := hb _ (q_at_mem (w := w) (i := (i : Int)) hn)
    have g2 := hb _ (q_at_mem (w := w) (i := (i : Int) + 1) hn)
    have s52 := s_52 (sp := sp) (ph := ph) (d := d) (m := m) (b := b) (L := L) (R := R) (B := B) hL h1 h2 g1 g2 hB hB'
    have eg : r_len (y_mJ m 4) L B (q_at w (i : Int)) (q_at w ((i : Int) + 1)) = q_len (y_mJ m 4) L B w i := rfl
    obtain ⟨b1, b2⟩ := hg i (by omega)
    rw [eg] at s52
    generalize q_len (y_mJ m 4) L B w = g at *
    have s56a := s_56 (sp := sp) (ph := ph) (d := d + 2) (m := m) (x := Y) (y := S - (T - S)) (by omega) (by omega) (by omega) (by omega)
    have s56b := s_56 (sp := sp) (ph := ph) (d := d + 2) (m := m) (x := (S + g i) - (T - (S + g i))) (y := -Y) (by omega) (by omega) (by omega) (by omega)
    have nx : ∀ x' : Int, -1 ≤ x' → x' ≤ 12 → y_R sp ph (d + 3) 60 117 [some (y_bo 4 0 3), some (y_bo 0 0 b), some (y_bo 8 0 a), none, some (y_bi (n_b last)), some (y_bl T), none, some (y_bl Y), none, none, none, some (y_bi x'), some (y_bi (i : Int)), some (y_bl (S + g i)), none, none, none] [] m = y_rI (u_kc g T Y last k (i + 1) (S + g i) x') m := fun x' q1 q2 => by
      rw [y_E_60_117, show (i : Int) + 1 = ((i + 1 : Nat) : Int) by omega]
      exact ih (i + 1) (S + g i) x' (by omega) (by omega) (by omega) q1 q2
    rw [y_E_60_28, hw.1, if_neg (by rw [z_w_id (by omega) (by omega), z_w_id (by omega) (by omega)]; omega), s65a, e_bI, s65b, e_bI, s52, e_bL, s56a, e_bI, s56b, e_bI, u_kc]
    by_cases c1 : Y + 64 < S - (T - S)
    · rw [decide_eq_true c1, if_pos (by decide), nx x h5 h6, if_neg (fun r => r.1 c1)]
    · rw [decide_eq_false c1, if_neg (by decide)]
      by_cases c2 : (S + g i) - (T - (S + g i)) + 64 < - Y
      · rw [decide_eq_true c2, if_pos (by decide), nx x h5 h6, if_neg (fun r => r.2.1 c2)]
      · rw [decide_eq_false c2, if_neg (by decide)]
        cases last
        · rw [if_neg (by decide)]
          by_cases c3 : x = -1
          · rw [if_neg (by rw [c3]; decide), y_E_60_113, nx (i : Int) (by omega) (by omega), if_pos ⟨c1, c2, Or.inr c3⟩]
          · rw [if_pos (by rw [z_w_id (by omega) (by omega)]; exact c3), nx x h5 h6, if_neg (fun r => r.2.2.elim (fun q => by cases q) c3)]
        · rw [if_pos (by decide), y_E_60_113, nx (i : Int) (by omega) (by omega), if_pos ⟨c1, c2, Or.inl rfl⟩]
end Knot
