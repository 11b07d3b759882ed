def u_KC (m : y_m) (a L : Nat) (K : List (List Nat)) : Prop := y_mI m a 3 = K.length ∧ ∀ i, i < K.length → ∀ h, h < 12 → y_mI m (a + 5) (i * 12 + h) = q_wear L (K.getD i []) h
def u_KR (m : y_m) (K : List (List Nat)) : Prop := y_mI m 49 15 = K.length ∧ ∀ i, i < K.length → y_mI m (63 + i) 12 = (K.getD i []).length ∧ ∀ j, j < (K.getD i []).length → y_mI m (63 + i) j = (((K.getD i []).getD j 0 : Nat) : Int)
def u_Kk (L R : Nat) (K : List (List Nat)) : Prop := K.length ≤ 4 ∧ ∀ w ∈ K, w ≠ [] ∧ w.length ≤ 12 ∧ ∀ h ∈ w, h < L + R
theorem u_KC_0 {m : y_m} {a L : Nat} (h : y_mI m a 3 = 0) : u_KC m a L [] := ⟨h, fun i hi => absurd hi (Nat.not_lt_zero i)⟩
theorem u_KR_0 {m : y_m} (h : y_mI m 49 15 = 0) : u_KR m [] := ⟨h, fun i hi => absurd hi (Nat.not_lt_zero i)⟩
theorem u_KC_F {S : Nat → Nat → Prop} {m m' : y_m} {a L : Nat} {K : List (List Nat)} (h : u_KC m a L K) (hF : q_F S m m') (h1 : ¬ S a 3) (h2 : ∀ k, ¬ S (a + 5) k) : u_KC m' a L K := ⟨by rw [q_F_I hF a 3 h1]; exact h.1, fun i hi z hz => by rw [q_F_I hF _ _ (h2 _)]; exact h.2 i hi z hz⟩
theorem u_KR_F {S : Nat → Nat → Prop} {m m' : y_m} {K : List (List Nat)} (h : u_KR m K) (hk : K.length ≤ 4) (hF : q_F S m m') (h1 : ¬ S 49 15) (h2 : ∀ a k, S a k → a < 63 ∨ 66 < a) : u_KR m' K := by
  refine ⟨by rw [q_F_I hF 49 15 h1]; exact h.1, fun i hi => ⟨?_, fun j hj => ?_⟩⟩
  · rw [q_F_I hF _ _ (fun r => by have := h2 _ _ r; omega)]; exact (h.2 i hi).1
  · rw [q_F_I hF _ _ (fun r => by have := h2 _ _ r; omega)]; exact (h.2 i hi).2 j hj
theorem u_Kk_add {L R : Nat} {K : List (List Nat)} {w : List Nat} (h : u_Kk L R K) (hl : K.length < 4) (hn : w ≠ []) (h12 : w.length ≤ 12) (hw : ∀ h ∈ w, h < L + R) : u_Kk L R (K ++ [w]) := by
  refine ⟨by rw [List.length_append, List.length_singleton]; omega, fun v hv => ?_⟩
  rcases List.mem_append.mp hv with q | q
  · exact h.2 v q
  · rw [List.mem_singleton] at q; subst q; exact ⟨hn, h12, hw⟩
theorem n_getD_app {α : Type} {K : List α} {w e : α} {i : Nat} : (K ++ [w]).getD i e = if i < K.length then K.getD i e else if i = K.length then w else e := by
  by_cases c : i < K.length
  · rw [if_pos c, List.getD_eq_getElem?_getD, List.getD_eq_getElem?_getD, List.getElem?_append_left c]
  · rw [if_neg c, List.getD_eq_getElem?_getD, List.getElem?_append_right (by omega)]
    by_cases c2 : i = K.length
    · rw [if_pos c2, c2, Nat.sub_self]; rfl
    · rw [if_neg c2, List.getElem?_eq_none (by rw [List.length_singleton]; omega)]; rfl
section Keep
variable {sp : Nat → Nat} {ph : Bool} {d : Nat} {m m' : y_m} {L R A B t lw X a n1 : Nat} {w : List Nat} {K : List (List Nat)}
def u_kf (a k : Nat) : Prop := (a = 22 ∧ k = 3) ∨ a = 27
theorem l_89 {c b : Nat} (hc : c < 4) (hb : b = 29 ∨ b = 30) (hw12 : ∀ h ∈ w, h < 12) (h6 : L ≤ 6) : ∀ (k j : Nat) (m : y_m), j + k = 12 → q_W m 23 w → y_mI m b 0 = (L : Int) → y_mI m 22 3 = (c : Int) → (∀ h, h < j → y_mI m 27 (c * 12 + h) = q_wear L w h) → ∃ m', y_R sp ph (d + 4) 89 12 [some (y_bo 5 0 22), some (y_bo 0 0 b), some (y_bi (j : Int))] [] m = y_R sp ph (d + 4) 89 49 [some (y_bo 5 0 22), none, none] [] m' ∧ q_F (fun a k => a = 27 ∧ c * 12 ≤ k ∧ k < c * 12 + 12) m m' ∧ ∀ h, h < 12 → y_mI m' 27 (c * 12 + h) = q_wear L w h := by
  intro k
  induction k with
  | zero =>
    intro j m hj hW hL h3 hF
    refine ⟨m, ?_, q_F_refl, fun h hh => hF h (by omega)⟩
    rw [y_E_89_12, if_pos (by rw [z_w_id (by omega) (by omega)]; omega)]
  | succ k ih =>
    intro j m hj hW hL h3 hF
    have s75 := s_75 (sp := sp) (ph := ph) (d := d) (m := m) (a := 23) (b := b) (x := j) hW hw12 (by omega) hL h6
    have s8 := s_8 (sp := sp) (ph := ph) (d := d + 3) (n := 48) (a := 27) (x := ((c * 12 + j : Nat) : Int)) (v := q_wear L w j) (m := m) (by omega) (by omega) (by omega)
    rw [Int.toNat_natCast] at s8
    have F1 : q_F (fun a k => a = 27 ∧ c * 12 ≤ k ∧ k < c * 12 + 12) m (y_sI m 27 (c * 12 + j) (q_wear L w j)) := q_F_sI (by omega)
    obtain ⟨m2, a1, a2, a3⟩ := ih (j + 1) (y_sI m 27 (c * 12 + j) (q_wear L w j)) (by omega) (q_W_F hW F1 (fun r => by omega) (fun k r => by omega)) (by rw [e_II' (by omega)]; exact hL) (by rw [e_II' (by omega)]; exact h3) (fun h hh => by
      by_cases q : h = j
      · subst q; rw [e_II]
      · rw [e_II' (by omega)]; exact hF h (by omega))
    refine ⟨m2, ?_, q_F_trans F1 a2, a3⟩
    have ei : (c : Int) * 12 + (j : Int) = ((c * 12 + j : Nat) : Int) := by omega
    rw [y_E_89_12, if_neg (by rw [z_w_id (by omega) (by omega)]; omega), s75, e_bI, h3, ei, s8, e_bV, show (j : Int) + 1 = ((j + 1 : Nat) : Int) by omega]
    exact a1
theorem s_163n (hK : c_K m L R A B t lw X []) : y_V sp true (d + 2) 163 [y_bo 10 0 0] m = some (.inr 2, y_tm m) := by
  have s171 := s_171n (sp := sp) (d := d) (m := m) hK.2.2.2.2.2.2.2.2.2.2.2.2.2.2.1
  rw [y_C_163, y_E_163_0, s171]; rfl
theorem s_163f (hK : c_K m L R A B t lw X w) (hn : w ≠ []) (hC : u_KC m 22 L K) (h4 : K.length = 4) : y_V sp ph (d + 3) 163 [y_bo 10 0 0] m = y_rI (-1) m := by
  have s171 := s_171y (sp := sp) (ph := ph) (d := d + 1) (m := m) hK.2.2.2.2.2.2.2.2.2.2.2.2.2.2.1 hn
  have s89 : y_V sp ph (d + 2) 89 [y_bo 5 0 22, y_bo 0 0 (y_mc m)] m = y_rI 0 m := by
    rw [y_C_89, y_E_89_0, hC.1, if_neg (by rw [z_w_id (by omega) (by omega)]; omega)]
  rw [y_C_163, y_E_163_0, s171, e_bV, s89, e_bI, if_pos (by decide), y_E_163_28, y_E_163_29]
theorem s_163 (hK : c_K m L R A B t lw X w) (hn : w ≠ []) (hC : u_KC m 22 L K) (h4 : K.length < 4) : ∃ m', y_V sp ph (d + 6) 163 [y_bo 10 0 0] m = y_rI ((K.length : Int) + 1) m' ∧ q_F u_kf m m' ∧ u_KC m' 22 L (K ++ [w]) := by
  have hw := u_w12 hK
  have hb := hK.b
  obtain ⟨g1, g2, g3, g4, g5, g6, g7, g8, g9, g10, g11, g12, g13, g14, h15, -⟩ := hK
  have s171 := s_171y (sp := sp) (ph := ph) (d := d + 4) (m := m) h15 hn
  obtain ⟨m2, a1, a2, a3⟩ := l_89 (sp := sp) (ph := ph) (d := d) (c := K.length) (b := y_mc m) (w := w) (L := L) h4 hb (fun h hh => by have := hw h hh; omega) g9 12 0 m (by omega) h15 g2 hC.1 (fun h hh => absurd hh (Nat.not_lt_zero h))
  have e3 : y_mI m2 22 3 = K.length := by rw [q_F_I a2 22 3 (by omega)]; exact hC.1
  have s89 : y_V sp ph (d + 5) 89 [y_bo 5 0 22, y_bo 0 0 (y_mc m)] m = y_rI 1 (y_sI m2 22 3 ((K.length : Int) + 1)) := by
    have a1' : y_R sp ph (d + 4) 89 12 [some (y_bo 5 0 22), some (y_bo 0 0 (y_mc m)), some (y_bi 0)] [] m = _ := a1
    rw [y_C_89, y_E_89_0, hC.1, if_pos (by rw [z_w_id (by omega) (by omega)]; omega), y_E_89_10, a1', y_E_89_49, e3]
  refine ⟨y_sI m2 22 3 ((K.length : Int) + 1), ?_, q_F_trans (q_F_mono a2 (fun a k r => Or.inr r.1)) (q_F_sI (Or.inl ⟨rfl, rfl⟩)), ?_, fun i hi h hh => ?_⟩
  · rw [y_C_163, y_E_163_0, s171, e_bV, s89, e_bI, if_neg (by decide), y_E_163_29, e_II]
  · rw [e_II, List.length_append, List.length_singleton]; omega
  · rw [List.length_append, List.length_singleton] at hi
    rw [e_II' (by omega), n_getD_app]
    by_cases c : i < K.length
    · rw [if_pos c]
      have := hC.2 i c h hh
      rw [q_F_I a2 27 (i * 12 + h) (by omega)]; exact this
    · have : i = K.length := by omega
      rw [if_neg c, if_pos this, this]; exact a3 h hh
theorem s_164 (hC : u_KC m 22 L K) : y_V sp ph (d + 1) 164 [y_bo 10 0 0] m = y_rI (K.length : Int) (y_sI m 22 3 0) := by rw [y_C_164, y_E_164_0, hC.1]
theorem t_289 (hC : u_KR m K) : y_V sp ph (d + 1) 289 [y_bo 11 0 49] m = y_rI (K.length : Int) (y_sI (y_sI m 49 0 0) 49 15 0) := by
  have e : y_mI (y_sI m 49 0 0) 49 15 = K.length := by rw [e_II' (by omega)]; exact hC.1
  rw [y_C_289, y_E_289_0, e]
theorem l_288 {c : Nat} (hc : c < 4) : ∀ (k j : Nat) (m : y_m), j + k = w.length → q_V m w → y_mI m 49 15 = (c : Int) → (∀ i, i < j → y_mI m (63 + c) i = ((w.getD i 0 : Nat) : Int)) → ∃ m', y_R sp ph d 288 26 [some (y_bo 11 0 49), some (y_bi (j : Int))] [] m = y_R sp ph d 288 57 [some (y_bo 11 0 49), none] [] m' ∧ q_F (fun a k => a = 63 + c ∧ k < 12) m m' ∧ ∀ i, i < w.length → y_mI m' (63 + c) i = ((w.getD i 0 : Nat) : Int) := by
  intro k
  induction k with
  | zero =>
    intro j m hj hV h15 hF
    have hl := hV.2.1
    refine ⟨m, ?_, q_F_refl, fun i hi => hF i (by omega)⟩
    rw [y_E_288_26, hV.1, if_pos (by rw [z_w_id (by omega) (by omega), z_w_id (by omega) (by omega)]; omega)]
  | succ k ih =>
    intro j m hj hV h15 hF
    have hl := hV.2.1
    have F1 : q_F (fun a k => a = 63 + c ∧ k < 12) m (y_sI m (63 + c) j (w.getD j 0 : Nat)) := q_F_sI (by omega)
    obtain ⟨m2, a1, a2, a3⟩ := ih (j + 1) (y_sI m (63 + c) j (w.getD j 0 : Nat)) (by omega) (q_V_F hV F1 (fun a k r => by omega)) (by rw [e_II' (by omega)]; exact h15) (fun i hi => by
      by_cases q : i = j
      · subst q; rw [e_II]
      · rw [e_II' (by omega)]; exact hF i (by omega))
    refine ⟨m2, ?_, q_F_trans F1 a2, a3⟩
    have er : (63 : Nat) + 1 * ((c : Nat) : Int).toNat = 63 + c := by omega
    rw [y_E_288_26, hV.1, if_neg (by rw [z_w_id (by omega) (by omega), z_w_id (by omega) (by omega)]; omega), h15, e_g ⟨by omega, by omega⟩, e_g ⟨by omega, by omega⟩, e_g ⟨by omega, by omega⟩, er, Int.toNat_natCast, hV.2.2 j (by omega), show (j : Int) + 1 = ((j + 1 : Nat) : Int) by omega]
    exact a1
def u_kr (a k : Nat) : Prop := (a = 49 ∧ (k = 0 ∨ k = 15)) ∨ (63 ≤ a ∧ a ≤ 66)
theorem t_288n (hV : q_V m []) : y_V sp ph (d + 3) 288 [y_bo 11 0 49] m = y_rI 0 (y_sI (y_sI m 49 0 0) 49 0 1) := by
  have hV' : q_V (y_sI m 49 0 0) [] := q_V_F hV (q_F_sI (S := fun a k => a = 49 ∧ k = 0) ⟨rfl, rfl⟩) (fun a k r => by omega)
  have t230 := t_230b (sp := sp) (ph := ph) (d := d) (m := y_sI m 49 0 0) e_II hV'
  rw [y_C_288, y_E_288_0, t230, e_bI, if_neg (by decide)]
theorem t_288f (hV : q_V m w) (hn : w ≠ []) (hC : u_KR m K) (h4 : K.length = 4) : y_V sp ph (d + 3) 288 [y_bo 11 0 49] m = y_rI (-1) (y_sI m 49 0 0) := by
  have hV' : q_V (y_sI m 49 0 0) w := q_V_F hV (q_F_sI (S := fun a k => a = 49 ∧ k = 0) ⟨rfl, rfl⟩) (fun a k r => by omega)
  have t230 := t_230a (sp := sp) (ph := ph) (d := d) (m := y_sI m 49 0 0) e_II hV' hn
  have e : y_mI (y_sI m 49 0 0) 49 15 = K.length := by rw [e_II' (by omega)]; exact hC.1
  rw [y_C_288, y_E_288_0, t230, e_bI, if_pos (by decide), y_E_288_14, e, h4, if_neg (by decide)]
theorem t_288 (hV : q_V m w) (hn : w ≠ []) (hC : u_KR m K) (h4 : K.length < 4) : ∃ m', y_V sp ph (d + 3) 288 [y_bo 11 0 49] m = y_rI ((K.length : Int) + 1) m' ∧ q_F u_kr m m' ∧ y_mI m' 49 0 = 0 ∧ u_KR m' (K ++ [w]) := by
  have F0 : q_F u_kr m (y_sI m 49 0 0) := q_F_sI (by unfold u_kr; omega)
  have hV' : q_V (y_sI m 49 0 0) w := q_V_F hV (q_F_sI (S := fun a k => a = 49 ∧ k = 0) ⟨rfl, rfl⟩) (fun a k r => by omega)
  have hC' : u_KR (y_sI m 49 0 0) K := u_KR_F (S := fun a k => a = 49 ∧ k = 0) hC (by omega) (q_F_sI ⟨rfl, rfl⟩) (by omega) (fun a k r => by omega)
  have t230 := t_230a (sp := sp) (ph := ph) (d := d) (m := y_sI m 49 0 0) e_II hV' hn
  have e00 : y_mI (y_sI m 49 0 0) 49 0 = 0 := e_II
  have st : y_V sp ph (d + 3) 288 [y_bo 11 0 49] m = y_R sp ph (d + 2) 288 26 [some (y_bo 11 0 49), some (y_bi 0)] [] (y_sI m 49 0 0) := by
    rw [y_C_288, y_E_288_0, t230, e_bI, if_pos (by decide), y_E_288_14, hC'.1, if_pos (by rw [z_w_id (by omega) (by omega)]; omega), y_E_288_24]
  rw [st]
  generalize y_sI m 49 0 0 = M at *
  obtain ⟨m2, a1, a2, a3⟩ := l_288 (sp := sp) (ph := ph) (d := d + 2) (c := K.length) h4 w.length 0 M (by omega) hV' hC'.1 (fun i hi => absurd hi (Nat.not_lt_zero i))
  have a1' : y_R sp ph (d + 2) 288 26 [some (y_bo 11 0 49), some (y_bi 0)] [] M = _ := a1
  have e15 : y_mI m2 49 15 = K.length := by rw [q_F_I a2 49 15 (by omega)]; exact hC'.1
  have e13 : y_mI m2 49 13 = w.length := by rw [q_F_I a2 49 13 (by omega)]; exact hV'.1
  have er : (63 : Nat) + 1 * ((K.length : Nat) : Int).toNat = 63 + K.length := by omega
  have e15b : y_mI (y_sI m2 (63 + K.length) 12 (w.length : Int)) 49 15 = K.length := by rw [e_II' (by omega)]; exact e15
  refine ⟨y_sI (y_sI m2 (63 + K.length) 12 (w.length : Int)) 49 15 ((K.length : Int) + 1), ?_, q_F_trans F0 (q_F_trans (q_F_mono a2 (fun a k r => by unfold u_kr; omega)) (q_F_trans (q_F_sI (by unfold u_kr; omega)) (q_F_sI (by unfold u_kr; omega)))), ?_, ?_, fun i hi => ?_⟩
  · rw [a1', y_E_288_57, e15, e13, er, e15b, e_g ⟨by omega, by omega⟩, e_II]
  · rw [e_II' (by omega), e_II' (by omega), q_F_I a2 49 0 (by omega)]; exact e00
  · rw [e_II, List.length_append, List.length_singleton]; omega
  · rw [List.length_append, List.length_singleton] at hi
    rw [n_getD_app]
    by_cases c : i < K.length
    · rw [if_pos c]
      refine ⟨?_, fun j hj => ?_⟩
      · rw [e_II' (by omega), e_II' (by omega), q_F_I a2 _ _ (by omega)]; exact (hC'.2 i c).1
      · rw [e_II' (by omega), e_II' (by omega), q_F_I a2 _ _ (by omega)]; exact (hC'.2 i c).2 j hj
    · have ei : i = K.length := by omega
      rw [if_neg c, if_pos ei, ei]
      have hl := hV'.2.1
      refine ⟨?_, fun j hj => ?_⟩
      · rw [e_II' (by omega), e_II]
      · rw [e_II' (by omega), e_II' (by omega)]; exact a3 j hj
end Keep
