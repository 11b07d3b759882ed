/-! ===== the class's finder: a path goes on ===== -/
def m_up (m : y_m) (fr to : Nat) (c : Int) : y_m := if y_mJ m 9 fr ≠ m_F ∧ y_mJ m 9 fr + c < y_mJ m 9 to then y_sJ m 9 to (y_mJ m 9 fr + c) else m
def m_ad (x c : Int) : Int := if x = m_F then m_F else x + c
def m_bd (v : Int) : Prop := v = m_F ∨ (-4000000000000000000 ≤ v ∧ v ≤ 4000000000000000000)
def m_rg (v : Int) : Prop := -5000000000000000000 ≤ v ∧ v ≤ m_F
theorem m_up_F {m : y_m} {fr to : Nat} {c : Int} : q_F (fun a k => a = 9 ∧ k = to) m (m_up m fr to c) := by
  unfold m_up; split
  · exact q_F_sJ ⟨rfl, rfl⟩
  · exact q_F_refl
theorem m_up_to {m : y_m} {fr to : Nat} {c : Int} (h : y_mJ m 9 to ≤ m_F) : y_mJ (m_up m fr to c) 9 to = if m_ad (y_mJ m 9 fr) c < y_mJ m 9 to then m_ad (y_mJ m 9 fr) c else y_mJ m 9 to := by
  unfold m_up m_ad
  by_cases q : y_mJ m 9 fr = m_F
  · rw [if_neg (fun r => r.1 q), if_pos q, if_neg (by omega)]
  · by_cases r : y_mJ m 9 fr + c < y_mJ m 9 to
    · rw [if_pos ⟨q, r⟩, if_neg q, if_pos r, e_JJ]
    · rw [if_neg (fun s => r s.2), if_neg q, if_neg r]
theorem m_is_ad {P : List (Nat × Nat) → Prop} {what L R A B x y : Nat} {v : Int} (hb : m_B L R A B) (hxy : x < L + R ∧ y < L + R) (hl : ∀ E, P E → (∀ e ∈ E, e.1 < L + R ∧ e.2 < L + R) ∧ E.length ≤ 12) (g : m_is v (m_P what L A B P)) : m_is (m_ad v (m_w what L A B (w_e x y))) (m_P what L A B (fun E => ∃ E', P E' ∧ E = w_e x y :: E')) := by
  unfold m_ad
  rcases g with ⟨g1, g2⟩ | ⟨⟨E, g1, g2⟩, g3, g4⟩
  · rw [if_pos g1]
    exact m_is_none fun z hz => by
      obtain ⟨E, ⟨E', q, _⟩, _⟩ := hz
      exact g2 _ ⟨E', q, rfl⟩
  · rw [if_neg (by omega)]
    have he : (w_e x y).1 < L + R ∧ (w_e x y).2 < L + R := by
      rcases w_e_fst x y with q | q <;> rcases w_e_snd x y with r | r <;> rw [q, r] <;> omega
    have b1 := m_w_b (what := what) hb he
    have b2 := m_S_b (what := what) hb (hl E g1).1
    have b3 := (hl E g1).2
    have b4 : 288230376151800000 * (E.length : Int) ≤ 288230376151800000 * 12 := by omega
    refine Or.inr ⟨⟨w_e x y :: E, ⟨E, g1, rfl⟩, by rw [m_S_cons, ← g2]; exact Int.add_comm _ _⟩, by unfold m_F; omega, ?_⟩
    rintro z ⟨E2, ⟨E3, q, rfl⟩, rfl⟩
    have := g4 _ ⟨E3, q, rfl⟩
    rw [m_S_cons]; omega
section Ext
variable {sp : Nat → Nat} {ph : Bool} {d : Nat} {m : y_m} {b L R A B lw what : Nat}
theorem l_117i {fr to : Nat} {k i h : Bool} {c : Int} (hfr : fr + 3 < 196608) (hto : to + 1 < 196608) (hc : -300000000000000000 ≤ c ∧ c ≤ 300000000000000000) (h1 : m_bd (y_mJ m 9 (fr + 2 * i.toNat + h.toNat))) (h2 : m_rg (y_mJ m 9 (to + h.toNat))) {top : Int} (ht : ¬ z_w top < z_w (n_b h)) : y_R sp ph d 117 69 [some (y_bo 2 0 8), some (y_bo 0 0 b), some (y_bi (fr : Int)), some (y_bi (to : Int)), some (y_bi (n_b k)), some (y_bl c), none, some (y_bi top), some (y_bi (n_b i)), some (y_bi (n_b h)), none, none] [] m = y_R sp ph d 117 69 [some (y_bo 2 0 8), some (y_bo 0 0 b), some (y_bi (fr : Int)), some (y_bi (to : Int)), some (y_bi (n_b k)), some (y_bl c), none, some (y_bi top), some (y_bi (n_b i)), some (y_bi (n_b h + 1)), none, none] [] (m_up m (fr + 2 * i.toNat + h.toNat) (to + h.toNat) c) := by
  have e1 : (fr : Int) + 2 * n_b i + n_b h = ((fr + 2 * i.toNat + h.toNat : Nat) : Int) := by cases i <;> cases h <;> simp [n_b] <;> omega
  have e2 : (to : Int) + n_b h = ((to + h.toNat : Nat) : Int) := by cases h <;> simp [n_b]
  have l1 : fr + 2 * i.toNat + h.toNat < 196608 := by cases i <;> cases h <;> simp <;> omega
  have l2 : to + h.toNat < 196608 := by cases h <;> simp <;> omega
  rw [y_E_117_69, if_neg ht, e1, e2]
  generalize fr + 2 * i.toNat + h.toNat = p at *
  generalize to + h.toNat = q at *
  have kg : ∀ (w : Nat) (r : y_Rs), w < 196608 → y_g (0 ≤ (w : Int) ∧ (w : Int) < (196608 : Int)) r = r := fun w r h => e_g ⟨by omega, by omega⟩
  rw [kg _ _ l1, kg _ _ l2, kg _ _ l2, Int.toNat_natCast, Int.toNat_natCast]
  have b1 : -9223372036854775808 ≤ y_mJ m 9 p ∧ y_mJ m 9 p < 9223372036854775808 := by unfold m_bd m_F at h1; omega
  have b2 : -9223372036854775808 ≤ y_mJ m 9 q ∧ y_mJ m 9 q < 9223372036854775808 := by unfold m_rg m_F at h2; omega
  have ebr : (z_w (z_lcmp (y_mJ m 9 p) 9223372036854775807) = 0) = (y_mJ m 9 p = 9223372036854775807) := n_lc_eq b1.1 b1.2 (by omega) (by omega)
  unfold m_up
  by_cases z : y_mJ m 9 p = 9223372036854775807
  · rw [if_pos (by rw [ebr]; exact z), if_neg (fun r => r.1 z), y_E_117_133]
  · have b3 : -4000000000000000000 ≤ y_mJ m 9 p ∧ y_mJ m 9 p ≤ 4000000000000000000 := by
      rcases h1 with r | r
      · exact absurd r z
      · exact r
    have ebr2 : (0 ≤ z_w (z_lcmp (y_mJ m 9 p + c) (y_mJ m 9 q))) = (y_mJ m 9 q ≤ y_mJ m 9 p + c) := n_lc_ge (by omega) (by omega) b2.1 b2.2
    rw [if_neg (by rw [ebr]; exact z)]
    by_cases y : y_mJ m 9 p + c < y_mJ m 9 q
    · rw [if_neg (by rw [ebr2]; omega), if_pos ⟨z, y⟩, y_E_117_133]
    · rw [if_pos (by rw [ebr2]; omega), if_neg (fun r => y r.2), y_E_117_133]
/-- one row of the four: how the path came -/
def m_up2 (m : y_m) (z : Bool) (fr to : Nat) (i : Bool) (c : Int) : y_m := if z then m_up m (fr + 2 * i.toNat + 0) (to + 0) c else m_up (m_up m (fr + 2 * i.toNat + 0) (to + 0) c) (fr + 2 * i.toNat + 1) (to + 1) c
theorem m_up2_F {z i : Bool} {fr to : Nat} {c : Int} : q_F (fun a k => a = 9 ∧ (k = to ∨ k = to + 1)) m (m_up2 m z fr to i c) := by
  unfold m_up2; split
  · exact q_F_mono m_up_F (fun a k h => ⟨h.1, Or.inl h.2⟩)
  · exact q_F_trans (q_F_mono m_up_F (fun a k h => ⟨h.1, Or.inl h.2⟩)) (q_F_mono m_up_F (fun a k h => ⟨h.1, Or.inr h.2⟩))
theorem m_ad_bd {x c : Int} (h : m_bd x) (hc : -300000000000000000 ≤ c ∧ c ≤ 300000000000000000) : m_ad x c ≤ m_F ∧ -4300000000000000000 ≤ m_ad x c := by
  unfold m_ad; unfold m_bd m_F at *; split <;> omega
theorem l_117h {fr to : Nat} {k i : Bool} {c : Int} (hfr : fr + 3 < 196608) (hto : to + 1 < 196608) (hdis : to + 1 < fr ∨ fr + 3 < to) (hc : -300000000000000000 ≤ c ∧ c ≤ 300000000000000000) (h1 : ∀ j, j < 4 → m_bd (y_mJ m 9 (fr + j))) (h2 : ∀ j, j < 2 → m_rg (y_mJ m 9 (to + j))) : y_R sp ph d 117 69 [some (y_bo 2 0 8), some (y_bo 0 0 b), some (y_bi (fr : Int)), some (y_bi (to : Int)), some (y_bi (n_b k)), some (y_bl c), none, some (y_bi (n_b (!decide (lw = 0)))), some (y_bi (n_b i)), some (y_bi 0), none, none] [] m = y_R sp ph d 117 48 [some (y_bo 2 0 8), some (y_bo 0 0 b), some (y_bi (fr : Int)), some (y_bi (to : Int)), some (y_bi (n_b k)), some (y_bl c), none, some (y_bi (n_b (!decide (lw = 0)))), some (y_bi (n_b i + 1)), none, none, none] [] (m_up2 m (decide (lw = 0)) fr to i c) := by
  have hi : 2 * i.toNat < 4 := by cases i <;> decide
  have hi1 : 2 * i.toNat + 1 < 4 := by cases i <;> decide
  have a := l_117i (sp := sp) (ph := ph) (d := d) (m := m) (b := b) (fr := fr) (to := to) (k := k) (i := i) (h := false) (c := c) hfr hto hc (by have := h1 (2 * i.toNat) hi; rw [Nat.add_assoc]; exact this) (h2 0 (by omega)) (top := n_b (!decide (lw = 0))) (by cases decide (lw = 0) <;> decide)
  have a' : y_R sp ph d 117 69 [some (y_bo 2 0 8), some (y_bo 0 0 b), some (y_bi (fr : Int)), some (y_bi (to : Int)), some (y_bi (n_b k)), some (y_bl c), none, some (y_bi (n_b (!decide (lw = 0)))), some (y_bi (n_b i)), some (y_bi 0), none, none] [] m = _ := a
  rw [a']
  unfold m_up2
  cases hz : decide (lw = 0)
  · have F1 := @m_up_F m (fr + 2 * i.toNat + 0) (to + 0) c
    have e := l_117i (sp := sp) (ph := ph) (d := d) (m := m_up m (fr + 2 * i.toNat + 0) (to + 0) c) (b := b) (fr := fr) (to := to) (k := k) (i := i) (h := true) (c := c) hfr hto hc (by rw [q_F_J F1 9 _ (by show ¬ (9 = 9 ∧ fr + 2 * i.toNat + 1 = to + 0); omega)]; have := h1 (2 * i.toNat + 1) hi1; rw [← Nat.add_assoc] at this; exact this) (by rw [q_F_J F1 9 _ (by show ¬ (9 = 9 ∧ to + 1 = to + 0); omega)]; exact h2 1 (by omega)) (top := n_b (!false)) (by decide)
    have e' : y_R sp ph d 117 69 [some (y_bo 2 0 8), some (y_bo 0 0 b), some (y_bi (fr : Int)), some (y_bi (to : Int)), some (y_bi (n_b k)), some (y_bl c), none, some (y_bi (n_b (!false))), some (y_bi (n_b i)), some (y_bi (n_b false + 1)), none, none] [] (m_up m (fr + 2 * i.toNat + 0) (to + 0) c) = _ := e
    refine e'.trans ?_
    rw [y_E_117_69, if_pos (by decide), y_E_117_139]
    rfl
  · rw [y_E_117_69, if_pos (by decide), y_E_117_139]
    rfl
def m_up4 (m : y_m) (lw : Nat) (fr to : Nat) (k : Bool) (c : Int) : y_m := if lw = 0 then m_up2 m true fr to false c else if r_may lw true k = true then m_up2 (if r_may lw false k = true then m_up2 m false fr to false c else m) false fr to true c else (if r_may lw false k = true then m_up2 m false fr to false c else m)
theorem m_up4_F {fr to : Nat} {k : Bool} {c : Int} : q_F (fun a k => a = 9 ∧ (k = to ∨ k = to + 1)) m (m_up4 m lw fr to k c) := by
  unfold m_up4
  repeat' split
  · exact m_up2_F
  · exact q_F_trans m_up2_F m_up2_F
  · exact m_up2_F
  · exact m_up2_F
  · exact q_F_refl
theorem m_up_rg {fr to : Nat} {c : Int} (hc : -300000000000000000 ≤ c ∧ c ≤ 300000000000000000) (h1 : m_bd (y_mJ m 9 fr)) (h2 : m_rg (y_mJ m 9 to)) : m_rg (y_mJ (m_up m fr to c) 9 to) := by
  have a := m_ad_bd h1 hc
  rw [m_up_to h2.2]
  unfold m_rg at *
  split <;> omega
theorem m_up2_rg {z i : Bool} {fr to : Nat} {c : Int} (hdis : to + 1 < fr ∨ fr + 3 < to) (hc : -300000000000000000 ≤ c ∧ c ≤ 300000000000000000) (h1 : ∀ j, j < 4 → m_bd (y_mJ m 9 (fr + j))) (h2 : ∀ j, j < 2 → m_rg (y_mJ m 9 (to + j))) : ∀ j, j < 2 → m_rg (y_mJ (m_up2 m z fr to i c) 9 (to + j)) := by
  have hi : 2 * i.toNat < 4 := by cases i <;> decide
  have hi1 : 2 * i.toNat + 1 < 4 := by cases i <;> decide
  have F1 := @m_up_F m (fr + 2 * i.toNat + 0) (to + 0) c
  have F2 := @m_up_F (m_up m (fr + 2 * i.toNat + 0) (to + 0) c) (fr + 2 * i.toNat + 1) (to + 1) c
  have a0 := m_up_rg (m := m) (fr := fr + 2 * i.toNat + 0) (to := to + 0) hc (by have := h1 _ hi; rw [Nat.add_assoc]; exact this) (h2 0 (by omega))
  intro j hj
  unfold m_up2
  rcases (show j = 0 ∨ j = 1 by omega) with rfl | rfl
  · cases z
    · simp only [Bool.false_eq_true, reduceIte]
      rw [q_F_J F2 9 _ (by show ¬ (9 = 9 ∧ to + 0 = to + 1); omega)]
      exact a0
    · simp only [reduceIte]; exact a0
  · cases z
    · simp only [Bool.false_eq_true, reduceIte]
      refine m_up_rg hc ?_ ?_
      · rw [q_F_J F1 9 _ (by show ¬ (9 = 9 ∧ fr + 2 * i.toNat + 1 = to + 0); omega)]
        have := h1 _ hi1; rw [← Nat.add_assoc] at this; exact this
      · rw [q_F_J F1 9 _ (by show ¬ (9 = 9 ∧ to + 1 = to + 0); omega)]; exact h2 1 (by omega)
    · simp only [reduceIte]
      rw [q_F_J F1 9 _ (by show ¬ (9 = 9 ∧ to + 1 = to + 0); omega)]; exact h2 1 (by omega)
theorem l_117g {fr to : Nat} {k i : Bool} {c : Int} (hw : y_mI m b 5 = (lw : Int)) (hlw : lw ≤ 2) (hfr : fr + 3 < 196608) (hto : to + 1 < 196608) (hdis : to + 1 < fr ∨ fr + 3 < to) (hc : -300000000000000000 ≤ c ∧ c ≤ 300000000000000000) (h1 : ∀ j, j < 4 → m_bd (y_mJ m 9 (fr + j))) (h2 : ∀ j, j < 2 → m_rg (y_mJ m 9 (to + j))) (ht : ¬ z_w (n_b (!decide (lw = 0))) < z_w (n_b i)) : y_R sp ph (d + 1) 117 48 [some (y_bo 2 0 8), some (y_bo 0 0 b), some (y_bi (fr : Int)), some (y_bi (to : Int)), some (y_bi (n_b k)), some (y_bl c), none, some (y_bi (n_b (!decide (lw = 0)))), some (y_bi (n_b i)), none, none, none] [] m = y_R sp ph (d + 1) 117 48 [some (y_bo 2 0 8), some (y_bo 0 0 b), some (y_bi (fr : Int)), some (y_bi (to : Int)), some (y_bi (n_b k)), some (y_bl c), none, some (y_bi (n_b (!decide (lw = 0)))), some (y_bi (n_b i + 1)), none, none, none] [] (if r_may lw i k = true then m_up2 m (decide (lw = 0)) fr to i c else m) := by
  have h := l_117h (sp := sp) (ph := ph) (d := d + 1) (m := m) (b := b) (lw := lw) (k := k) (i := i) hfr hto hdis hc h1 h2
  rw [y_E_117_48, if_neg ht]
  cases q : r_may lw i k
  · simp (disch := omega) only [s_46 hw hlw, e_bI, e_nb0, q, reduceIte, y_E_117_139, Bool.false_eq_true]
  · simp (disch := omega) only [s_46 hw hlw, e_bI, e_nb0, q, reduceIte, Bool.true_eq_false]
    exact h
theorem s_117 {fr to : Nat} {k : Bool} {c : Int} (hw : y_mI m b 5 = (lw : Int)) (hlw : lw ≤ 2) (hb9 : b ≠ 9) (hfr : fr + 3 < 196608) (hto : to + 1 < 196608) (hdis : to + 1 < fr ∨ fr + 3 < to) (hc : -300000000000000000 ≤ c ∧ c ≤ 300000000000000000) (h1 : ∀ j, j < 4 → m_bd (y_mJ m 9 (fr + j))) (h2 : ∀ j, j < 2 → m_rg (y_mJ m 9 (to + j))) : y_V sp ph (d + 2) 117 [y_bo 2 0 8, y_bo 0 0 b, y_bi (fr : Int), y_bi (to : Int), y_bi (n_b k), y_bl c] m = y_rV (m_up4 m lw fr to k c) := by
  have g1 := l_117g (sp := sp) (ph := ph) (d := d) (m := m) (b := b) (lw := lw) (k := k) (i := false) hw hlw hfr hto hdis hc h1 h2 (by cases decide (lw = 0) <;> decide)
  have g1' : y_R sp ph (d + 1) 117 48 [some (y_bo 2 0 8), some (y_bo 0 0 b), some (y_bi (fr : Int)), some (y_bi (to : Int)), some (y_bi (n_b k)), some (y_bl c), none, some (y_bi (n_b (!decide (lw = 0)))), some (y_bi 0), none, none, none] [] m = _ := g1
  have st : y_V sp ph (d + 2) 117 [y_bo 2 0 8, y_bo 0 0 b, y_bi (fr : Int), y_bi (to : Int), y_bi (n_b k), y_bl c] m = y_R sp ph (d + 1) 117 48 [some (y_bo 2 0 8), some (y_bo 0 0 b), some (y_bi (fr : Int)), some (y_bi (to : Int)), some (y_bi (n_b k)), some (y_bl c), none, some (y_bi (n_b (!decide (lw = 0)))), some (y_bi 0), none, none, none] [] m := by
    by_cases c0 : lw = 0
    · simp (disch := omega) only [y_C_117, y_E_117_0, y_E_117_31, y_E_117_43, hw, z_w_id, if_neg, if_pos]
      rw [decide_eq_true c0]; rfl
    · simp (disch := omega) only [y_C_117, y_E_117_0, y_E_117_31, y_E_117_42, y_E_117_43, hw, z_w_id, if_neg, if_pos]
      rw [decide_eq_false c0]; rfl
  rw [st, g1']
  unfold m_up4
  by_cases c0 : lw = 0
  · have r0 : r_may lw false k = true := by rw [c0]; rfl
    rw [if_pos c0, if_pos r0, decide_eq_true c0, y_E_117_48, if_pos (by decide), y_E_117_145]
  · have F := @m_up2_F m false false fr to c
    rw [if_neg c0, decide_eq_false c0]
    have key : ∀ m2 : y_m, y_mI m2 b 5 = (lw : Int) → (∀ j, j < 4 → m_bd (y_mJ m2 9 (fr + j))) → (∀ j, j < 2 → m_rg (y_mJ m2 9 (to + j))) → y_R sp ph (d + 1) 117 48 [some (y_bo 2 0 8), some (y_bo 0 0 b), some (y_bi (fr : Int)), some (y_bi (to : Int)), some (y_bi (n_b k)), some (y_bl c), none, some (y_bi (n_b (!false))), some (y_bi (n_b false + 1)), none, none, none] [] m2 = y_rV (if r_may lw true k = true then m_up2 m2 false fr to true c else m2) := by
      intro m2 hw2 h12 h22
      have g2 := l_117g (sp := sp) (ph := ph) (d := d) (m := m2) (b := b) (lw := lw) (k := k) (i := true) hw2 hlw hfr hto hdis hc h12 h22 (by rw [decide_eq_false c0]; decide)
      rw [decide_eq_false c0] at g2
      refine (show _ = _ from g2).trans ?_
      rw [y_E_117_48, if_pos (by decide), y_E_117_145]
    cases q : r_may lw false k
    · simp only [Bool.false_eq_true, reduceIte]
      exact key m hw h1 h2
    · simp only [reduceIte]
      exact key _ (by rw [q_F_I F b 5 (by omega)]; exact hw) (fun j hj => by rw [q_F_J F 9 _ (by omega)]; exact h1 j hj) (m_up2_rg hdis hc h1 h2)
end Ext
