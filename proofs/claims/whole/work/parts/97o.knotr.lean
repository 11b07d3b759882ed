/-! ===== knot: a part of a way; both walks find the same ===== -/
def u_kw (g : Nat → Int) (T Y : Int) (last : Bool) : Nat → Nat → Int → Int → Int
  | 0, _, _, x => x
  | k + 1, i, S, x => if last = true ∨ 2 * (S + g i) + Y - T < -64 then u_kw g T Y last k (i + 1) (S + g i) (if 64 < 2 * S - Y - T then x else (i : Int)) else (i : Int)
section Walk
variable {g : Nat → Int} {T Y : Int}
theorem u_kc_hi (hY : 0 ≤ Y) : ∀ (k i : Nat) (S x y : Int), (∀ j, i ≤ j → j < i + k → 0 ≤ g j) → Y + 64 < S - (T - S) → u_kc g T Y true k i S x = x ∧ u_kw g T Y true k i S y = y
  | 0, _, _, _, _, _, _ => ⟨rfl, rfl⟩
  | k + 1, i, S, x, y, hg, h => by
    have g0 := hg i (by omega) (by omega)
    rw [u_kc, u_kw, if_neg (fun r => r.1 h), if_pos (Or.inl rfl), if_pos (by omega)]
    exact u_kc_hi hY k (i + 1) (S + g i) x y (fun j a b => hg j (by omega) (by omega)) (by omega)
theorem u_kc_last (hY : 0 ≤ Y) (hT : 0 ≤ T) : ∀ (k i : Nat) (S x y : Int), (∀ j, i ≤ j → j < i + (k + 1) → 0 ≤ g j) → T = S + q_S g i (k + 1) → ¬ (Y + 64 < S - (T - S)) → u_kc g T Y true (k + 1) i S x = u_kw g T Y true (k + 1) i S y
  | 0, i, S, x, y, hg, hs, h => by
    have e : q_S g i (0 + 1) = g i := by show g i + 0 = g i; omega
    rw [e] at hs
    rw [u_kc, u_kw, if_pos ⟨h, by omega, Or.inl rfl⟩, if_pos (Or.inl rfl), if_neg (by omega), u_kc, u_kw]
  | k + 1, i, S, x, y, hg, hs, h => by
    have g0 := hg i (by omega) (by omega)
    have e : q_S g i (k + 1 + 1) = g i + q_S g (i + 1) (k + 1) := rfl
    rw [e] at hs
    rw [u_kc, u_kw, if_pos (Or.inl rfl), if_neg (show ¬ (64 < 2 * S - Y - T) by omega)]
    by_cases c2 : (S + g i) - (T - (S + g i)) + 64 < - Y
    · rw [if_neg (fun r => r.2.1 c2)]
      exact u_kc_last hY hT k (i + 1) (S + g i) _ _ (fun j a b => hg j (by omega) (by omega)) (by omega) (by omega)
    · rw [if_pos ⟨h, c2, Or.inl rfl⟩]
      by_cases c1 : Y + 64 < (S + g i) - (T - (S + g i))
      · obtain ⟨a, b⟩ := u_kc_hi (g := g) (T := T) hY (k + 1) (i + 1) (S + g i) (i : Int) (i : Int) (fun j a b => hg j (by omega) (by omega)) c1
        rw [a, b]
      · exact u_kc_last hY hT k (i + 1) (S + g i) _ _ (fun j a b => hg j (by omega) (by omega)) (by omega) c1
theorem u_kc_held : ∀ (k i : Nat) (S x : Int), x ≠ -1 → u_kc g T Y false k i S x = x
  | 0, _, _, _, _ => rfl
  | k + 1, i, S, x, h => by
    rw [u_kc, if_neg (fun r => r.2.2.elim (fun q => by cases q) h)]
    exact u_kc_held k (i + 1) (S + g i) x h
theorem u_kc_first (hY : 0 ≤ Y) (hT : 0 ≤ T) : ∀ (k i : Nat) (S y : Int), T = S + q_S g i (k + 1) → ¬ (Y + 64 < S - (T - S)) → u_kc g T Y false (k + 1) i S (-1) = u_kw g T Y false (k + 1) i S y
  | 0, i, S, y, hs, h => by
    have e : q_S g i (0 + 1) = g i := by show g i + 0 = g i; omega
    rw [e] at hs
    rw [u_kc, u_kw, if_pos ⟨h, by omega, Or.inr rfl⟩, if_neg (fun r => r.elim (fun q => by cases q) (fun q => by omega)), u_kc]
  | k + 1, i, S, y, hs, h => by
    have e : q_S g i (k + 1 + 1) = g i + q_S g (i + 1) (k + 1) := rfl
    rw [e] at hs
    rw [u_kc, u_kw]
    by_cases c2 : (S + g i) - (T - (S + g i)) + 64 < - Y
    · rw [if_neg (fun r => r.2.1 c2), if_pos (Or.inr (by omega))]
      exact u_kc_first hY hT k (i + 1) (S + g i) _ (by omega) (by omega)
    · rw [if_pos ⟨h, c2, Or.inr rfl⟩, if_neg (fun r => r.elim (fun q => by cases q) (fun q => by omega))]
      exact u_kc_held (k + 1) (i + 1) (S + g i) (i : Int) (by omega)
/-- class's walk = reference's walk -/
theorem u_kc_kw {n : Nat} {last : Bool} (hY : 0 ≤ Y) (hn : 0 < n) (hg : ∀ j, j < n → 0 ≤ g j) (hT : T = q_S g 0 n) (hT0 : 0 ≤ T) : u_kc g T Y last n 0 0 (-1) = u_kw g T Y last n 0 0 (-1) := by
  obtain ⟨k, rfl⟩ : ∃ k, n = k + 1 := ⟨n - 1, by omega⟩
  cases last
  · exact u_kc_first hY hT0 k 0 0 (-1) (by omega) (by omega)
  · exact u_kc_last hY hT0 k 0 0 (-1) (-1) (fun j _ b => hg j (by omega)) (by omega) (by omega)
theorem u_kc_congr {g' : Nat → Int} {last : Bool} : ∀ (k i : Nat) (S x : Int), (∀ j, i ≤ j → j < i + k → g j = g' j) → u_kc g T Y last k i S x = u_kc g' T Y last k i S x
  | 0, _, _, _, _ => rfl
  | k + 1, i, S, x, h => by
    rw [u_kc, u_kc, h i (by omega) (by omega)]
    exact u_kc_congr k (i + 1) _ _ (fun j a b => h j (by omega) (by omega))
end Walk
section Part
variable {L R A B : Nat} {E : List (Nat × Nat)}
theorem w_cnt_app {k : Nat} {F : List (Nat × Nat)} : w_cnt L k (E ++ F) = w_cnt L k E + w_cnt L k F := by
  unfold w_cnt
  rw [List.filter_append, List.length_append]
theorem w_wh_app {F : List (Nat × Nat)} : ∀ {E : List (Nat × Nat)}, w_wh L A B (E ++ F) = w_wh L A B E + w_wh L A B F
  | [] => by show w_wh L A B F = 0 + _; omega
  | e :: E => by
    show w_w1 L A B e + w_wh L A B (E ++ F) = w_w1 L A B e + w_wh L A B E + w_wh L A B F
    rw [w_wh_app]; omega
theorem m_E_take (hE : m_E L R E) (i : Nat) : m_E L R (E.take i) := ⟨⟨hE.1.1.sublist (List.take_sublist i E), fun e he => hE.1.2 e (List.mem_of_mem_take he)⟩, by rw [List.length_take]; have := hE.2; omega⟩
theorem m_dec_take (hB : m_B L R A B) (hE : m_E L R E) (i : Nat) : ∀ k, k < 6 → q_dec false (w_code L A B (E.take i)) k ≤ q_dec false (w_code L A B E) k := fun k hk => by
  rw [(m_dec_D false hB (m_E_take hE i)).1 k hk, (m_dec_D false hB hE).1 k hk]
  have e : E = E.take i ++ E.drop i := (List.take_append_drop i E).symm
  have c1 : w_cnt L k E = w_cnt L k (E.take i) + w_cnt L k (E.drop i) := by rw [← w_cnt_app, List.take_append_drop]
  have c2 : w_wh L A B E = w_wh L A B (E.take i) + w_wh L A B (E.drop i) := by rw [← w_wh_app, List.take_append_drop]
  unfold w_d
  rw [c1, c2]
  split
  · rw [if_neg (by decide), if_neg (by decide)]; omega
  · omega
theorem m_eu_get {w : List Nat} {s : Nat} {u0 : List Nat} (hw : w = s :: u0) : ∀ (u : List Nat) (i last : Nat), w.drop i = last :: u → i + (u.length + 1) = w.length → ∀ j, j < u.length + 1 → (m_eu s last u)[j]? = some (w_e (q_at w ((i + j : Nat) : Int)) (q_at w (((i + j : Nat) : Int) + 1)))
  | [], i, last, hd, hl, j, hj => by
    have hi : i < w.length := by simp at hl; omega
    have e1 : q_at w (i : Int) = last := by
      rw [q_at_nat hi, List.getD_eq_getElem?_getD, List.getElem?_eq_getElem hi]
      have := List.drop_eq_getElem_cons hi
      rw [hd] at this
      exact (List.cons.inj this).1.symm
    have e2 : q_at w ((i : Int) + 1) = s := by
      have : (i : Int) + 1 = (w.length : Int) := by simp at hl; omega
      rw [this]
      unfold q_at
      rw [Int.emod_self, hw]; rfl
    have j0 : j = 0 := by simp at hj; omega
    subst j0
    rw [Nat.add_zero, e1, e2]; rfl
  | x :: u, i, last, hd, hl, j, hj => by
    have hi : i < w.length := by simp at hl; omega
    have hc := List.drop_eq_getElem_cons hi
    rw [hd] at hc
    obtain ⟨c1, c2⟩ := List.cons.inj hc
    have hi2 : i + 1 < w.length := by simp at hl; omega
    have hc2 := List.drop_eq_getElem_cons hi2
    rw [← c2] at hc2
    have e1 : q_at w (i : Int) = last := by
      rw [q_at_nat hi, List.getD_eq_getElem?_getD, List.getElem?_eq_getElem hi]
      exact c1.symm
    have e2 : q_at w ((i : Int) + 1) = x := by
      rw [show (i : Int) + 1 = ((i + 1 : Nat) : Int) by omega, q_at_nat hi2, List.getD_eq_getElem?_getD, List.getElem?_eq_getElem hi2]
      exact (List.cons.inj hc2).1.symm
    cases j with
    | zero => rw [Nat.add_zero, e1, e2]; rfl
    | succ j =>
      have ih := m_eu_get hw u (i + 1) x c2.symm (by simp at hl; omega) j (by simp at hj; omega)
      rw [show i + (j + 1) = i + 1 + j by omega]
      exact ih
/-- one span more -/
theorem m_eu_take {s : Nat} {u : List Nat} {j : Nat} (hj : j < (s :: u).length) : (m_eu s s u).take (j + 1) = (m_eu s s u).take j ++ [w_e (q_at (s :: u) (j : Int)) (q_at (s :: u) ((j : Int) + 1))] := by
  have g := m_eu_get (w := s :: u) rfl u 0 s rfl (by simp) j (by simpa using hj)
  rw [Nat.zero_add] at g
  rw [List.take_add_one, g]; rfl
end Part
section Knotr
variable {sp : Nat → Nat} {ph : Bool} {d : Nat} {m m' : y_m} {L R A B t lw X : Nat} {w : List Nat}
def u_kg (L A B : Nat) (w : List Nat) (j : Nat) : Int := w_f false L A B (w_e (q_at w (j : Int)) (q_at w ((j : Int) + 1)))
theorem u_kg_S {s j : Nat} {u : List Nat} (hj : j < (s :: u).length) : m_S 0 L A B ((m_eu s s u).take (j + 1)) = m_S 0 L A B ((m_eu s s u).take j) + u_kg L A B (s :: u) j := by
  rw [m_eu_take hj, m_S_app]
  refine congrArg (fun z => m_S 0 L A B ((m_eu s s u).take j) + z) ?_
  show m_w 0 L A B (w_e _ _) + 0 = _
  unfold m_w u_kg
  rw [if_neg (by decide), if_neg (by decide), Int.add_zero]
theorem u_kg_C {s j : Nat} {u : List Nat} (hj : j < (s :: u).length) : w_code L A B ((m_eu s s u).take (j + 1)) = w_code L A B ((m_eu s s u).take j) + r_code L A B (q_at (s :: u) (j : Int)) (q_at (s :: u) ((j : Int) + 1)) := by
  rw [m_eu_take hj, w_code_app, w_code_cons]; rfl
theorem t_284k {x : Nat} {z : Int} {E : List (Nat × Nat)} (hc : m_Ch m L R A B lw t) (hE : m_E L R E) (i : Nat) (hz : -2000 ≤ z) (hz' : z ≤ 2000) : ∃ m', y_V sp ph (d + 3) 284 [y_bo 11 0 49, y_bl (w_code L A B (E.take i) : Int), y_bi z, y_bl (w_code L A B E : Int)] m = y_rI (if 64 < 2 * m_S 0 L A B (E.take i) + z * 281474976710656 - m_S 0 L A B E then 1 else if 2 * m_S 0 L A B (E.take i) + z * 281474976710656 - m_S 0 L A B E < -64 then -1 else 0) m' ∧ q_F m_9 m m' := by
  obtain ⟨c0, c1, c2, c3, c4, c6, c7, c8, c9, cB⟩ := hc
  obtain ⟨h1, h2⟩ := m_half cB hE (m_E_take hE i) (m_dec_take cB hE i) hz hz'
  have hd : ∀ k, 1 ≤ k → k < 6 → -24 ≤ q_d2 (w_code L A B (E.take i)) z (w_code L A B E) k ∧ q_d2 (w_code L A B (E.take i)) z (w_code L A B E) k ≤ 24 := fun k a b => by
    unfold q_box at h1
    rcases (show k = 1 ∨ k = 2 ∨ k = 3 ∨ k = 4 ∨ k = 5 by omega) with rfl | rfl | rfl | rfl | rfl <;> omega
  obtain ⟨m', a1, a2⟩ := t_284 (sp := sp) (ph := ph) (d := d) c9 (m_code_lt cB (m_E_take hE i)) (m_code_lt cB hE) hz hz' hd
  rw [h2] at a1
  exact ⟨m', a1, a2⟩
theorem l_285k {x y s : Nat} {u : List Nat} (hx : x ≤ 999) (hy : y ≤ 1) (hw : w = s :: u) (hb : ∀ h ∈ w, h < L + R) (hE : m_E L R (m_eu s s u)) : ∀ (k i : Nat) (m : y_m) (v : Int), i + k = w.length → m_Ch m L R A B lw t → q_V m w → ∃ m2, y_R sp ph (d + 3) 285 61 [some (y_bo 11 0 49), some (y_bi (x : Int)), some (y_bi (y : Int)), some (y_bl (w_code L A B (m_eu s s u) : Int)), none, some (y_bl (w_code L A B ((m_eu s s u).take i) : Int)), none, some (y_bi v), some (y_bi (i : Int))] [] m = y_rI (u_kw (u_kg L A B w) (m_S 0 L A B (m_eu s s u)) (2 * (x : Int) * 281474976710656) (decide (y = 1)) k i (m_S 0 L A B ((m_eu s s u).take i)) v) m2 ∧ q_F m_9 m m2 := by
  have hn : w ≠ [] := by rw [hw]; exact List.cons_ne_nil _ _
  intro k
  induction k with
  | zero =>
    intro i m v hi hc hV
    refine ⟨m, ?_, q_F_refl⟩
    have hl := hV.2.1
    rw [y_E_285_61, hV.1, if_pos (by rw [z_w_id (by omega) (by omega), z_w_id (by omega) (by omega)]; omega), y_E_285_136]; rfl
  | succ k ih =>
    intro i m v hi hc hV
    have hl := hV.2.1
    have f9 : ∀ (P Q : y_m), q_F m_9 P Q → m_Ch P L R A B lw t → m_Ch Q L R A B lw t := fun P Q f h => m_Ch_F h f (fun a k q => by unfold m_9 at q; unfold q_wr; omega)
    have v9 : ∀ (P Q : y_m), q_F m_9 P Q → q_V P w → q_V Q w := fun P Q f h => q_V_F h f (fun a k q => by unfold m_9 at q; omega)
    obtain ⟨m1, a1, a2⟩ := t_284k (x := 0) (sp := sp) (ph := ph) (d := d) (z := (-2) * (x : Int)) hc hE i (by omega) (by omega)
    have hc1 := f9 _ _ a2 hc
    have hV1 := v9 _ _ a2 hV
    have g0 := q_at_nat (w := w) (i := i) (by omega)
    have g1 := hb _ (q_at_mem (i := i) hn)
    have g2 := hb _ (q_at_mem (i := (i : Int) + 1) hn)
    have g4 : y_mI m1 54 i = ((q_at w i : Nat) : Int) := by rw [g0]; exact hV1.2.2 i (by omega)
    have t225 := t_225 (sp := sp) (ph := ph) (d := d + 2) (i := i) hV1 hn (by omega)
    have t212 := t_212 (sp := sp) (ph := ph) (d := d) (m := m1) (L := L) (R := R) (A := A) (B := B) hc1.1 hc1.2.2.1 hc1.2.2.2.1 hc1.2.2.2.2.2.2.2.2.2.1 hc1.2.2.2.2.2.2.2.2.2.2.1 g1 g2 hc1.2.2.2.2.2.2.2.2.2.2.2.2.1 hc1.2.2.2.2.2.2.2.2.2.2.2.2.2.2.1
    have eC : ((w_code L A B ((m_eu s s u).take i) : Nat) : Int) + ((r_code L A B (q_at w (i : Int)) (q_at w ((i : Int) + 1)) : Nat) : Int) = ((w_code L A B ((m_eu s s u).take (i + 1)) : Nat) : Int) := by
      have := u_kg_C (L := L) (A := A) (B := B) (s := s) (u := u) (j := i) (by rw [← hw]; omega)
      rw [← hw] at this
      rw [this]; omega
    have eS : m_S 0 L A B ((m_eu s s u).take (i + 1)) = m_S 0 L A B ((m_eu s s u).take i) + u_kg L A B w i := by
      have := u_kg_S (L := L) (A := A) (B := B) (s := s) (u := u) (j := i) (by rw [← hw]; omega)
      rw [← hw] at this
      exact this
    have mid : ∀ v' : Int, (v' = if 64 < 2 * m_S 0 L A B ((m_eu s s u).take i) - 2 * (x : Int) * 281474976710656 - m_S 0 L A B (m_eu s s u) then v else (i : Int)) → ∃ m2, y_R sp ph (d + 3) 285 88 [some (y_bo 11 0 49), some (y_bi (x : Int)), some (y_bi (y : Int)), some (y_bl (w_code L A B (m_eu s s u) : Int)), none, some (y_bl (w_code L A B ((m_eu s s u).take i) : Int)), none, some (y_bi v'), some (y_bi (i : Int))] [] m1 = y_rI (u_kw (u_kg L A B w) (m_S 0 L A B (m_eu s s u)) (2 * (x : Int) * 281474976710656) (decide (y = 1)) (k + 1) i (m_S 0 L A B ((m_eu s s u).take i)) v) m2 ∧ q_F m_9 m1 m2 := fun v' hv' => by
      rw [y_E_285_88, e_g ⟨by omega, by omega⟩, Int.toNat_natCast, g4, t225, e_bI, t212, e_bL, eC, u_kw, ← hv', ← eS]
      have nx : ∀ M : y_m, q_F m_9 m1 M → ∃ m2, y_R sp ph (d + 3) 285 130 [some (y_bo 11 0 49), some (y_bi (x : Int)), some (y_bi (y : Int)), some (y_bl (w_code L A B (m_eu s s u) : Int)), none, some (y_bl (w_code L A B ((m_eu s s u).take (i + 1)) : Int)), none, some (y_bi v'), some (y_bi (i : Int))] [] M = y_rI (u_kw (u_kg L A B w) (m_S 0 L A B (m_eu s s u)) (2 * (x : Int) * 281474976710656) (decide (y = 1)) k (i + 1) (m_S 0 L A B ((m_eu s s u).take (i + 1))) v') m2 ∧ q_F m_9 m1 m2 := fun M hM => by
        obtain ⟨m2, r1, r2⟩ := ih (i + 1) M v' (by omega) (f9 _ _ hM hc1) (v9 _ _ hM hV1)
        refine ⟨m2, ?_, q_F_trans hM r2⟩
        rw [y_E_285_130, show (i : Int) + 1 = ((i + 1 : Nat) : Int) by omega]
        exact r1
      rcases (show y = 0 ∨ y = 1 by omega) with rfl | rfl
      · obtain ⟨m3, b1, b2⟩ := t_284k (x := 0) (sp := sp) (ph := ph) (d := d) (z := 2 * (x : Int)) hc1 hE (i + 1) (by omega) (by omega)
        rw [if_neg (by decide), b1, e_bI]
        by_cases c : 2 * m_S 0 L A B ((m_eu s s u).take (i + 1)) + 2 * (x : Int) * 281474976710656 - m_S 0 L A B (m_eu s s u) < -64
        · rw [if_neg (show ¬ (64 : Int) < _ by omega), if_pos c, if_pos (by decide), if_pos (Or.inr c)]
          exact nx m3 b2
        · rw [if_neg c, if_neg (show ¬ (decide ((0 : Nat) = 1) = true ∨ _) from fun r => r.elim (fun q => by cases q) c)]
          refine ⟨m3, ?_, b2⟩
          split
          · rw [if_neg (by decide)]
          · rw [if_neg (by decide)]
      · rw [if_pos (by decide), if_pos (Or.inl (decide_eq_true rfl))]
        exact nx m1 q_F_refl
    rw [y_E_285_61, hV.1, if_neg (by rw [z_w_id (by omega) (by omega), z_w_id (by omega) (by omega)]; omega), a1, e_bI]
    by_cases c : 64 < 2 * m_S 0 L A B ((m_eu s s u).take i) - 2 * (x : Int) * 281474976710656 - m_S 0 L A B (m_eu s s u)
    · obtain ⟨m2, r1, r2⟩ := mid v (by rw [if_pos c])
      refine ⟨m2, ?_, q_F_trans a2 r2⟩
      rw [if_pos (show (64 : Int) < _ by omega), if_pos (by decide)]
      exact r1
    · obtain ⟨m2, r1, r2⟩ := mid (i : Int) (by rw [if_neg c])
      refine ⟨m2, ?_, q_F_trans a2 r2⟩
      rw [if_neg (show ¬ (64 : Int) < _ by omega)]
      split
      · rw [if_neg (by decide)]; exact r1
      · rw [if_neg (by decide)]; exact r1
/-- where a knot may be -/
def u_kn (L A B : Nat) (w : List Nat) (x y : Nat) : Int := u_kw (u_kg L A B w) (q_S (u_kg L A B w) 0 w.length) (2 * (x : Int) * 281474976710656) (decide (y = 1)) w.length 0 0 (-1)
theorem u_kg_T {s : Nat} {u : List Nat} : q_S (u_kg L A B (s :: u)) 0 (s :: u).length = m_S 0 L A B (m_eu s s u) := by
  refine m_eu_S (g := fun a b => w_f false L A B (w_e a b)) (G := m_S 0 L A B) rfl (fun a b E => ?_) rfl u 0 s rfl (by simp)
  show m_w 0 L A B (w_e a b) + m_S 0 L A B E = _
  unfold m_w
  rw [if_neg (by decide), if_neg (by decide)]
theorem t_285 {x y : Nat} (hU : u_R m L R A B t lw X w) (hx : x ≤ 999) (hy : y ≤ 1) {s : Nat} {u : List Nat} (hw : w = s :: u) (hb : ∀ h ∈ w, h < L + R) (hE : m_E L R (m_eu s s u)) : ∃ m', y_V sp ph (d + 5) 285 [y_bo 11 0 49, y_bi (x : Int), y_bi (y : Int)] m = y_rI (u_kn L A B w x y) m' ∧ q_F (fun a k => m_9 a k ∨ (a = 49 ∧ k = 0)) m m' ∧ y_mI m' 49 0 = 0 := by
  obtain ⟨hc, -, -, hV⟩ := hU
  have hn : w ≠ [] := by rw [hw]; exact List.cons_ne_nil _ _
  have F0 : q_F (fun a k => a = 49 ∧ k = 0) m (y_sI m 49 0 0) := q_F_sI ⟨rfl, rfl⟩
  have hc0 := m_Ch_F hc F0 (fun a k q => by unfold q_wr; omega)
  have hV0 := q_V_F hV F0 (fun a k q => by omega)
  have c0 := hc0
  obtain ⟨h0, h1, h2, h3, h4, h5, h6, h7, h8, h9⟩ := c0
  have t232 := t_232 (sp := sp) (ph := ph) (d := d) (m := y_sI m 49 0 0) (L := L) (R := R) (A := A) (B := B) hV0 hn hb h0 h2 h3 h9.1 h9.2.1 h9.2.2.2.1 h9.2.2.2.2.2.1
  rw [show q_S (q_code L A B w) 0 w.length = ((w_code L A B (m_eu s s u) : Nat) : Int) by rw [hw]; exact m_code_w] at t232
  obtain ⟨m2, r1, r2⟩ := l_285k (sp := sp) (ph := ph) (d := d + 1) (A := A) (B := B) (lw := lw) (t := t) hx hy hw hb hE w.length 0 (y_sI m 49 0 0) (-1) (by omega) hc0 hV0
  have r1' : y_R sp ph (d + 4) 285 61 [some (y_bo 11 0 49), some (y_bi (x : Int)), some (y_bi (y : Int)), some (y_bl (w_code L A B (m_eu s s u) : Int)), none, some (y_bl 0), none, some (y_bi (-1)), some (y_bi 0)] [] (y_sI m 49 0 0) = y_rI (u_kw (u_kg L A B w) (m_S 0 L A B (m_eu s s u)) (2 * (x : Int) * 281474976710656) (decide (y = 1)) w.length 0 0 (-1)) m2 := r1
  refine ⟨m2, ?_, q_F_trans (q_F_mono F0 (fun a k q => Or.inr q)) (q_F_mono r2 (fun a k q => Or.inl q)), by rw [q_F_I r2 49 0 (by unfold m_9; omega), e_II]⟩
  rw [l_285 (d := d + 2) hV hn (by omega) (by omega) (by omega) (by omega), if_pos (by omega), y_E_285_47, t232, e_bL, r1']
  unfold u_kn
  rw [hw, u_kg_T]
theorem s_161k {x y s : Nat} {u : List Nat} (hU : u_C m L R A B t lw X w) (hw : w = s :: u) (hx : x ≤ 999) (hy : y ≤ 1) : y_V sp ph (d + 6) 161 [y_bo 10 0 0, y_bi (x : Int), y_bi (y : Int)] m = y_rI (u_kn L A B w x y) m := by
  have hn : w ≠ [] := by rw [hw]; exact List.cons_ne_nil _ _
  have hwb := u_w12 hU.1
  have hg : ∀ j, q_len (y_mJ m 4) L B w j = u_kg L A B w j := fun j => (r_len_Q hU.2.2.1 (hwb _ (q_at_mem (w := w) (i := (j : Int)) hn)) (hwb _ (q_at_mem (w := w) (i := (j : Int) + 1) hn))).1
  have hp : 0 < w.length := List.length_pos_iff.mpr hn
  have eT : m_S 0 L A B (m_eu s s u) = q_S (u_kg L A B w) 0 w.length := by rw [hw]; exact u_kg_T.symm
  obtain ⟨s', u', hw', -, hE, hel, hlt, -⟩ := c_K_E hU.1 hn
  have hsu : s' = s ∧ u' = u := by rw [hw] at hw'; exact ⟨(List.cons.inj hw').1.symm, (List.cons.inj hw').2.symm⟩
  rw [hsu.1, hsu.2] at hE
  have nn := (m_nn hU.2.2.1.1 hE).1
  rw [s_161 hU hw hx hy, u_kc_congr w.length 0 0 (-1) (fun j _ _ => hg j), u_kc_kw (g := u_kg L A B w) (by omega) hp (fun j _ => w_f_nn) eT nn, eT]; rfl
end Knotr
