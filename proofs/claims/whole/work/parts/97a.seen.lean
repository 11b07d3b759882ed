/-! ===== seen ===== -/
def u_pr (P : List (Nat × Nat)) (x y : Nat) : Bool := decide ((x, y) ∈ P ∨ (y, x) ∈ P)
def u_sl (P : List (Nat × Nat)) (w : List Nat) : Nat → Nat → Bool
  | 0, _ => true
  | k + 1, i => if w.length ≤ i then true else u_pr P (q_at w (i : Int)) (q_at w ((i : Int) + 1)) && u_sl P w k (i + 2)
def u_se (P : List (Nat × Nat)) (w : List Nat) : Int := if w.length = 2 * P.length then (if u_sl P w 7 0 then 1 else if u_sl P w 7 1 then 2 else 0) else 0
section Seen
variable {sp : Nat → Nat} {ph : Bool} {d : Nat} {m m' : y_m} {L R A B t lw X a b : Nat} {w : List Nat} {P : List (Nat × Nat)}
theorem s_81 {x : Nat} (hP : u_PC m a P) (hb : ∀ h ∈ u_fp P, h < 12) (hx : x < 12) : ∃ v : Int, y_V sp ph (d + 2) 81 [y_bo 3 0 a, y_bi (x : Int)] m = y_rI v m ∧ -1 ≤ v ∧ v < 12 ∧ ∀ y : Nat, (v = y) = (u_pr P x y = true) := by
  obtain ⟨p1, ⟨s, p2, p3, p4⟩, p5⟩ := hP
  have nb := n_bit (s := s) (h := x) (by omega) (by omega)
  rw [y_C_81, y_E_81_0, p3, nb]
  unfold u_pr
  by_cases c : x ∈ u_fp P
  · have s7 := s_7 (sp := sp) (ph := ph) (d := d) (m := m) (n := 12) (a := a + 1) (x := (x : Int)) (by omega) (by omega) (by omega)
    rw [Int.toNat_natCast] at s7
    have hs : s.testBit x = true := by rw [p4]; exact decide_eq_true c
    rw [hs, if_pos rfl, if_pos (by decide), y_E_81_15, s7, e_bI, y_E_81_23]
    obtain ⟨pr, q1, q2⟩ := u_fp_mem.mp c
    obtain ⟨g1, g2⟩ := p5 pr q1
    have b1 := hb pr.1 (u_fp_mem.mpr ⟨pr, q1, Or.inl rfl⟩)
    have b2 := hb pr.2 (u_fp_mem.mpr ⟨pr, q1, Or.inr rfl⟩)
    refine ⟨_, rfl, ?_, ?_, fun y => ?_⟩
    · rcases q2 with q2 | q2
      · rw [q2, g1]; omega
      · rw [q2, g2]; omega
    · rcases q2 with q2 | q2
      · rw [q2, g1]; omega
      · rw [q2, g2]; omega
    · apply propext
      rw [decide_eq_true_iff]
      constructor
      · intro h
        rcases q2 with q2 | q2
        · left
          rw [q2, g1] at h
          have : y = pr.2 := by omega
          rw [q2, this]; exact q1
        · right
          rw [q2, g2] at h
          have : y = pr.1 := by omega
          rw [q2, this]; exact q1
      · rintro (h | h)
        · exact (p5 _ h).1
        · exact (p5 _ h).2
  · have hs : s.testBit x = false := by rw [p4]; exact decide_eq_false c
    rw [hs, if_neg (show ¬ (false = true) by decide), if_neg (by decide), y_E_81_23]
    refine ⟨-1, rfl, by omega, by omega, fun y => ?_⟩
    apply propext
    rw [decide_eq_true_iff]
    constructor
    · intro h; omega
    · rintro (h | h)
      · exact absurd (u_fp_mem.mpr ⟨_, h, Or.inl rfl⟩) c
      · exact absurd (u_fp_mem.mpr ⟨_, h, Or.inr rfl⟩) c
theorem l_84 (hP : u_PC m a P) (hb : ∀ h ∈ u_fp P, h < 12) (hW : q_W m b w) (hn : w ≠ []) (hw : ∀ h ∈ w, h < 12) : ∀ (k i : Nat), w.length ≤ i + 2 * k → i ≤ 14 → y_R sp ph (d + 2) 84 2 [some (y_bo 3 0 a), some (y_bo 8 0 b), none, some (y_bi (i : Int))] [] m = y_rI (n_b (u_sl P w k i)) m := by
  have hl := hW.2.1
  intro k
  induction k with
  | zero =>
    intro i h1 h2
    rw [y_E_84_2, hW.1, if_pos (by rw [z_w_id (by omega) (by omega), z_w_id (by omega) (by omega)]; omega), y_E_84_37]; rfl
  | succ k ih =>
    intro i h1 h2
    rw [y_E_84_2, hW.1, u_sl]
    by_cases c : w.length ≤ i
    · rw [if_pos (by rw [z_w_id (by omega) (by omega), z_w_id (by omega) (by omega)]; omega), y_E_84_37, if_pos c]; rfl
    · have s65a := s_65 (sp := sp) (ph := ph) (d := d) (i := (i : Int)) hW hn (by omega) (by omega)
      have s65b := s_65 (sp := sp) (ph := ph) (d := d) (i := (i : Int) + 1) hW hn (by omega) (by omega)
      have q1 := hw _ (q_at_mem (w := w) (i := (i : Int)) hn)
      have q2 := hw _ (q_at_mem (w := w) (i := (i : Int) + 1) hn)
      obtain ⟨v, v1, v2, v3, v4⟩ := s_81 (sp := sp) (ph := ph) (d := d) (x := q_at w (i : Int)) hP hb q1
      have v5 := v4 (q_at w ((i : Int) + 1))
      rw [if_neg (by rw [z_w_id (by omega) (by omega), z_w_id (by omega) (by omega)]; omega), s65a, e_bI, v1, e_bI, s65b, e_bI, if_neg c, z_w_id (by omega) (by omega), z_w_id (by omega) (by omega)]
      by_cases e : v = (q_at w ((i : Int) + 1) : Nat)
      · have e' : u_pr P (q_at w (i : Int)) (q_at w ((i : Int) + 1)) = true := by rw [← v5]; exact e
        rw [if_pos e, y_E_84_31, e', Bool.true_and, show (i : Int) + 2 = ((i + 2 : Nat) : Int) by omega]
        by_cases c2 : i + 2 ≤ 14
        · exact ih (i + 2) (by omega) c2
        · omega
      · have e' : u_pr P (q_at w (i : Int)) (q_at w ((i : Int) + 1)) = false := by
          rw [v5] at e
          exact Bool.eq_false_iff.mpr e
        rw [if_neg e, e']; rfl
theorem s_83 (hP : u_PC m a P) (hk : P.length ≤ 6) (hb : ∀ h ∈ u_fp P, h < 12) (hW : q_W m b w) (hn : w ≠ []) (hw : ∀ h ∈ w, h < 12) : y_V sp ph (d + 4) 83 [y_bo 3 0 a, y_bo 8 0 b] m = y_rI (u_se P w) m := by
  have hl := hW.2.1
  have s84 : ∀ o : Nat, o ≤ 1 → y_V sp ph (d + 3) 84 [y_bo 3 0 a, y_bo 8 0 b, y_bi (o : Int)] m = y_rI (n_b (u_sl P w 7 o)) m := fun o ho => by
    rw [y_C_84, y_E_84_0]
    exact l_84 hP hb hW hn hw 7 o (by omega) (by omega)
  have s0 : y_V sp ph (d + 3) 84 [y_bo 3 0 a, y_bo 8 0 b, y_bi 0] m = _ := s84 0 (by omega)
  have s1 : y_V sp ph (d + 3) 84 [y_bo 3 0 a, y_bo 8 0 b, y_bi 1] m = _ := s84 1 (by omega)
  unfold u_se
  rw [y_C_83, y_E_83_0, hW.1, hP.1]
  by_cases c : w.length = 2 * P.length
  · rw [if_pos (by rw [z_w_id (by omega) (by omega), z_w_id (by omega) (by omega)]; omega), y_E_83_15, s0, e_bI, if_pos c]
    cases u_sl P w 7 0
    · rw [if_pos (by decide), y_E_83_26, s1, e_bI]
      cases u_sl P w 7 1
      · rw [if_pos (by decide), y_E_83_39, y_E_83_40]; rfl
      · rw [if_neg (by decide), y_E_83_40]; rfl
    · rw [if_neg (by decide)]; rfl
  · rw [if_neg (by rw [z_w_id (by omega) (by omega), z_w_id (by omega) (by omega)]; omega), if_neg c]
theorem s_160n (hK : c_K m L R A B t lw X []) : y_V sp true (d + 2) 160 [y_bo 10 0 0] m = some (.inr 2, y_tm m) := by
  have s171 := s_171n (sp := sp) (d := d) (m := m) hK.2.2.2.2.2.2.2.2.2.2.2.2.2.2.1
  rw [y_C_160, y_E_160_0, s171]; rfl
theorem s_160 (hK : c_K m L R A B t lw X w) (hn : w ≠ []) (hP : u_PC m 25 P) (hk : u_Pk L R t P) : y_V sp ph (d + 5) 160 [y_bo 10 0 0] m = y_rI (u_se P w) m := by
  obtain ⟨h1, h2, h3, h4, h5, h6, h7, h8, h9, h10, h11, h12, h13, h14, h15, h16, h17, h18⟩ := hK
  have s171 := s_171y (sp := sp) (ph := ph) (d := d + 3) (m := m) h15 hn
  have hw : ∀ h ∈ w, h < 12 := fun h hh => by
    have := h16 h hh
    rw [c_wh_bit, Bool.and_eq_true, decide_eq_true_iff] at this
    omega
  have s83 := s_83 (sp := sp) (ph := ph) (d := d) hP hk.1 (fun h hh => by have := (hk.2.2 h hh).1; omega) h15 hn hw
  rw [y_C_160, y_E_160_0, s171, e_bV, s83, e_bI]
theorem l_282 {x y : Nat} (hP : u_PR m P) (hl : P.length ≤ 6) (hx : x < 12) (hy : y < 12) (hb : ∀ h ∈ u_fp P, h < 12) : ∀ (k j : Nat), j + k = P.length → y_R sp ph d 282 2 [some (y_bo 11 0 49), some (y_bi (x : Int)), some (y_bi (y : Int)), some (y_bi (j : Int))] [] m = y_rI (n_b (u_pr (P.drop j) x y)) m := by
  intro k
  induction k with
  | zero =>
    intro j hj
    rw [y_E_282_2, hP.1, if_pos (by rw [z_w_id (by omega) (by omega), z_w_id (by omega) (by omega)]; omega), y_E_282_66, List.drop_of_length_le (by omega)]
    unfold u_pr
    rw [decide_eq_false (fun r => r.elim (fun q => absurd q List.not_mem_nil) (fun q => absurd q List.not_mem_nil))]; rfl
  | succ k ih =>
    intro j hj
    have hj' : j < P.length := by omega
    have ed : P.drop j = P[j] :: P.drop (j + 1) := List.drop_eq_getElem_cons hj'
    have eg : P.getD j (0, 0) = P[j] := by rw [List.getD_eq_getElem?_getD, List.getElem?_eq_getElem hj']; rfl
    obtain ⟨p1, p2⟩ := hP.2 j hj'
    rw [eg] at p1 p2
    have b1 := hb P[j].1 (u_fp_mem.mpr ⟨P[j], List.getElem_mem hj', Or.inl rfl⟩)
    have b2 := hb P[j].2 (u_fp_mem.mpr ⟨P[j], List.getElem_mem hj', Or.inr rfl⟩)
    have r1 : (56 : Nat) + 1 * (j : Int).toNat = 56 + j := by omega
    have e34 : y_R sp ph d 282 34 [some (y_bo 11 0 49), some (y_bi (x : Int)), some (y_bi (y : Int)), some (y_bi (j : Int))] [] m = if P[j].1 = y ∧ P[j].2 = x then y_rI 1 m else y_R sp ph d 282 2 [some (y_bo 11 0 49), some (y_bi (x : Int)), some (y_bi (y : Int)), some (y_bi ((j + 1 : Nat) : Int))] [] m := by
      rw [y_E_282_34, e_g ⟨by omega, by omega⟩, e_g ⟨by omega, by omega⟩, r1, p1, p2]
      by_cases c1 : P[j].1 = y
      · by_cases c2 : P[j].2 = x
        · rw [if_neg (fun r => r (by rw [c1])), if_neg (fun r => r (by rw [c2])), y_E_282_58, if_pos ⟨c1, c2⟩]
        · rw [if_neg (fun r => r (by rw [c1])), if_pos (by rw [z_w_id (by omega) (by omega), z_w_id (by omega) (by omega)]; omega), y_E_282_60, if_neg (fun r => c2 r.2), show (j : Int) + 1 = ((j + 1 : Nat) : Int) by omega]
      · rw [if_pos (by rw [z_w_id (by omega) (by omega), z_w_id (by omega) (by omega)]; omega), y_E_282_60, if_neg (fun r => c1 r.1), show (j : Int) + 1 = ((j + 1 : Nat) : Int) by omega]
    have eu : u_pr (P[j] :: P.drop (j + 1)) x y = (decide (P[j].1 = x ∧ P[j].2 = y) || decide (P[j].1 = y ∧ P[j].2 = x) || u_pr (P.drop (j + 1)) x y) := by
      unfold u_pr
      rw [Bool.eq_iff_iff, Bool.or_eq_true, Bool.or_eq_true, decide_eq_true_iff, decide_eq_true_iff, decide_eq_true_iff, decide_eq_true_iff, List.mem_cons, List.mem_cons]
      generalize P[j] = pr
      obtain ⟨pa, pb⟩ := pr
      simp only [Prod.mk.injEq]
      constructor
      · rintro ((⟨h1, h2⟩ | h) | (⟨h1, h2⟩ | h))
        · exact Or.inl (Or.inl ⟨h1.symm, h2.symm⟩)
        · exact Or.inr (Or.inl h)
        · exact Or.inl (Or.inr ⟨h1.symm, h2.symm⟩)
        · exact Or.inr (Or.inr h)
      · rintro ((⟨h1, h2⟩ | ⟨h1, h2⟩) | h | h)
        · exact Or.inl (Or.inl ⟨h1.symm, h2.symm⟩)
        · exact Or.inr (Or.inl ⟨h1.symm, h2.symm⟩)
        · exact Or.inl (Or.inr h)
        · exact Or.inr (Or.inr h)
    have rest : y_R sp ph d 282 34 [some (y_bo 11 0 49), some (y_bi (x : Int)), some (y_bi (y : Int)), some (y_bi (j : Int))] [] m = y_rI (n_b (decide (P[j].1 = y ∧ P[j].2 = x) || u_pr (P.drop (j + 1)) x y)) m := by
      rw [e34]
      by_cases c : P[j].1 = y ∧ P[j].2 = x
      · rw [if_pos c, decide_eq_true c]; rfl
      · rw [if_neg c, decide_eq_false c, Bool.false_or, ih (j + 1) (by omega)]
    rw [y_E_282_2, hP.1, if_neg (by rw [z_w_id (by omega) (by omega), z_w_id (by omega) (by omega)]; omega), e_g ⟨by omega, by omega⟩, e_g ⟨by omega, by omega⟩, r1, p1, p2, ed, eu]
    by_cases c1 : P[j].1 = x
    · by_cases c2 : P[j].2 = y
      · rw [if_neg (fun r => r (by rw [c1])), if_pos (by rw [c2]), y_E_282_58, decide_eq_true ⟨c1, c2⟩]; rfl
      · rw [if_neg (fun r => r (by rw [c1])), if_neg (by rw [z_w_id (by omega) (by omega), z_w_id (by omega) (by omega)]; omega), decide_eq_false (show ¬ (P[j].1 = x ∧ P[j].2 = y) from fun r => c2 r.2), Bool.false_or, rest]
    · rw [if_pos (by rw [z_w_id (by omega) (by omega), z_w_id (by omega) (by omega)]; omega), decide_eq_false (show ¬ (P[j].1 = x ∧ P[j].2 = y) from fun r => c1 r.1), Bool.false_or, rest]
theorem t_282 {x y : Nat} (hP : u_PR m P) (hl : P.length ≤ 6) (hx : x < 12) (hy : y < 12) (hb : ∀ h ∈ u_fp P, h < 12) : y_V sp ph (d + 1) 282 [y_bo 11 0 49, y_bi (x : Int), y_bi (y : Int)] m = y_rI (n_b (u_pr P x y)) m := by
  rw [y_C_282, y_E_282_0]
  exact l_282 hP hl hx hy hb P.length 0 (by omega)
theorem l_283 {o : Nat} (hP : u_PR m P) (hl : P.length ≤ 6) (hb : ∀ h ∈ u_fp P, h < 12) (hV : q_V m w) (hn : w ≠ []) (hw : ∀ h ∈ w, h < 12) : ∀ (k i : Nat) (b : Bool), w.length ≤ i + 2 * k → i ≤ 14 → y_R sp ph (d + 1) 283 50 [some (y_bo 11 0 49), some (y_bi (o : Int)), some (y_bi (n_b b)), some (y_bi (i : Int))] [] m = y_R sp ph (d + 1) 283 92 [some (y_bo 11 0 49), some (y_bi (o : Int)), some (y_bi (n_b (b && u_sl P w k i))), none] [] m := by
  have hlen := hV.2.1
  intro k
  induction k with
  | zero =>
    intro i b h1 h2
    rw [y_E_283_50, hV.1, if_pos (by rw [z_w_id (by omega) (by omega), z_w_id (by omega) (by omega)]; omega), u_sl, Bool.and_true]
  | succ k ih =>
    intro i b h1 h2
    rw [y_E_283_50, hV.1, u_sl]
    by_cases c : w.length ≤ i
    · rw [if_pos (by rw [z_w_id (by omega) (by omega), z_w_id (by omega) (by omega)]; omega), if_pos c, Bool.and_true]
    · rw [if_neg (by rw [z_w_id (by omega) (by omega), z_w_id (by omega) (by omega)]; omega), if_neg c]
      cases b
      · rw [if_pos (by decide), y_E_283_84, y_E_283_85, show (i : Int) + 2 = ((i + 2 : Nat) : Int) by omega, Bool.false_and]
        exact (ih (i + 2) false (by omega) (by omega)).trans (by rw [Bool.false_and])
      · have q1 := hw _ (q_at_mem (w := w) (i := (i : Int)) hn)
        have q2 := hw _ (q_at_mem (w := w) (i := (i : Int) + 1) hn)
        have t225 := t_225 (sp := sp) (ph := ph) (d := d) (i := i) hV hn (by omega)
        have e54 : y_mI m 54 i = (q_at w (i : Int) : Nat) := by rw [hV.2.2 i (by omega), q_at_nat (by omega)]
        have t282 := t_282 (sp := sp) (ph := ph) (d := d) (x := q_at w (i : Int)) (y := q_at w ((i : Int) + 1)) hP hl q1 q2 hb
        rw [if_neg (by decide), e_g ⟨by omega, by omega⟩, t225, e_bI, Int.toNat_natCast, e54, t282, e_bI, Bool.true_and]
        cases u_pr P (q_at w (i : Int)) (q_at w ((i : Int) + 1))
        · rw [if_pos (by decide), y_E_283_84, y_E_283_85, show (i : Int) + 2 = ((i + 2 : Nat) : Int) by omega]
          exact ih (i + 2) false (by omega) (by omega)
        · rw [if_neg (by decide), y_E_283_85, show (i : Int) + 2 = ((i + 2 : Nat) : Int) by omega]
          exact ih (i + 2) true (by omega) (by omega)
theorem t_283n (hV : q_V m []) : y_V sp ph (d + 3) 283 [y_bo 11 0 49] m = y_rI 0 (y_sI (y_sI m 49 0 0) 49 0 1) := by
  have hV' : q_V (y_sI m 49 0 0) [] := q_V_F hV (q_F_sI (S := fun a k => a = 49 ∧ k = 0) ⟨rfl, rfl⟩) (fun a k r => by omega)
  have t230 := t_230b (sp := sp) (ph := ph) (d := d) (m := y_sI m 49 0 0) e_II hV'
  rw [y_C_283, y_E_283_0, t230, e_bI, if_neg (by decide)]
theorem t_283 (hP : u_PR m P) (hl : P.length ≤ 6) (hb : ∀ h ∈ u_fp P, h < 12) (hV : q_V m w) (hn : w ≠ []) (hw : ∀ h ∈ w, h < 12) : y_V sp ph (d + 3) 283 [y_bo 11 0 49] m = y_rI (u_se P w) (y_sI m 49 0 0) := by
  have hV' : q_V (y_sI m 49 0 0) w := q_V_F hV (q_F_sI (S := fun a k => a = 49 ∧ k = 0) ⟨rfl, rfl⟩) (fun a k r => by omega)
  have hP' : u_PR (y_sI m 49 0 0) P := u_PR_F (S := fun a k => a = 49 ∧ k = 0) hP hl (q_F_sI ⟨rfl, rfl⟩) (by omega) (fun a k r => by omega)
  have t230 := t_230a (sp := sp) (ph := ph) (d := d) (m := y_sI m 49 0 0) e_II hV' hn
  have hlen := hV.2.1
  unfold u_se
  rw [y_C_283, y_E_283_0, t230, e_bI, if_pos (by decide), y_E_283_14]
  generalize y_sI m 49 0 0 = M at *
  have lo : ∀ o : Nat, o ≤ 1 → y_R sp ph (d + 2) 283 50 [some (y_bo 11 0 49), some (y_bi (o : Int)), some (y_bi 1), some (y_bi (o : Int))] [] M = _ := fun o ho => l_283 (d := d + 1) (o := o) hP' hl hb hV' hn hw 7 o true (by omega) (by omega)
  have l0 : y_R sp ph (d + 2) 283 50 [some (y_bo 11 0 49), some (y_bi 0), some (y_bi 1), some (y_bi 0)] [] M = _ := lo 0 (by omega)
  have l1 : y_R sp ph (d + 2) 283 50 [some (y_bo 11 0 49), some (y_bi 1), some (y_bi 1), some (y_bi 1)] [] M = _ := lo 1 (by omega)
  rw [hV'.1, hP'.1]
  have hm : z_irem ((w.length : Nat) : Int) 2 = ((w.length % 2 : Nat) : Int) := by
    rw [n_irem (by omega) (by omega) (by omega) (by omega)]; omega
  by_cases c : w.length = 2 * P.length
  · rw [hm, if_neg (by rw [z_w_id (by omega) (by omega)]; omega), if_pos (by rw [z_w_id (by omega) (by omega), z_w_id (by omega) (by omega)]; omega), y_E_283_39, y_E_283_41, if_neg (by decide), l0, Bool.true_and, if_pos c, y_E_283_92]
    cases u_sl P w 7 0
    · rw [if_pos (by decide), y_E_283_100, y_E_283_41, if_neg (by decide)]
      have l1' : y_R sp ph (d + 2) 283 50 [some (y_bo 11 0 49), some (y_bi (((0 : Nat) : Int) + 1)), some (y_bi 1), some (y_bi (((0 : Nat) : Int) + 1))] [] M = _ := l1
      rw [l1', Bool.true_and, y_E_283_92]
      cases u_sl P w 7 1
      · rw [if_pos (by decide), y_E_283_100, y_E_283_41, if_pos (by decide), y_E_283_106]; rfl
      · rw [if_neg (by decide)]; rfl
    · rw [if_neg (by decide)]; rfl
  · rw [hm, if_neg c]
    by_cases c2 : w.length % 2 = 1
    · rw [if_pos (by rw [z_w_id (by omega) (by omega)]; omega), y_E_283_37]
    · rw [if_neg (by rw [z_w_id (by omega) (by omega)]; omega), if_neg (by rw [z_w_id (by omega) (by omega), z_w_id (by omega) (by omega)]; omega), y_E_283_37]
end Seen
