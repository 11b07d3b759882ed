section Clause
variable {sp : Nat → Nat} {ph : Bool} {d : Nat} {m : y_m} {f : Nat → Int} {n p b : Nat} {e q lo hi : Int} {g : Nat → Nat}
def u_nr (f : Nat → Int) (n : Nat) (lo hi : Int) (p : Nat) : (Int × Int) ⊕ (Int × Nat) := if u_nk f n lo hi p = 0 then .inr (u_nv f n p, u_np f n p) else .inl (u_nk f n lo hi p, (u_sc u_bl f n p : Nat))
theorem u_nk_b : 0 ≤ u_nk f n lo hi p ∧ u_nk f n lo hi p ≤ 2 := by unfold u_nk; repeat' split
                                                                   all_goals omega
theorem u_nv_b : u_nk f n lo hi p = 0 → lo ≤ u_nv f n p ∧ u_nv f n p ≤ hi := by
  unfold u_nk u_nv
  intro h
  split at h
  · omega
  · split at h
    · omega
    · omega
/-- what reading a number comes to -/
def u_nx (e q : Int) (r : (Int × Int) ⊕ (Int × Nat)) (v : Int) (p' : Nat) (e' q' : Int) : Prop := (e ≠ 0 → e' = e ∧ q' = q) ∧ (e = 0 → match r with
  | .inl x => e' = x.1 ∧ q' = x.2 ∧ x.1 ≠ 0
  | .inr x => v = x.1 ∧ p' = x.2 ∧ e' = 0 ∧ q' = q)
theorem s_28x (h : u_TP m f n p e q) (h1 : -1000000 ≤ lo) (h2 : lo ≤ hi) (h3 : hi ≤ 1000000) : ∃ v p' e' q' m', y_V sp ph (d + 4) 28 [y_bo 6 0 1, y_bi lo, y_bi hi] m = y_rI v m' ∧ q_F u_tf m m' ∧ u_TP m' f n p' e' q' ∧ lo ≤ v ∧ v ≤ hi ∧ u_nx e q (u_nr f n lo hi p) v p' e' q' := by
  obtain ⟨m1, a1, a2, a3⟩ := s_28 (sp := sp) (ph := ph) (d := d) (lo := lo) (hi := hi) h (by omega) (by omega)
  refine ⟨_, _, _, _, m1, a1, a2, a3, ?_, ?_, ?_⟩
  · by_cases c : u_nk f n lo hi p = 0
    · rw [if_pos c]; exact (u_nv_b c).1
    · rw [if_neg c]; exact Int.le_refl _
  · by_cases c : u_nk f n lo hi p = 0
    · rw [if_pos c]; exact (u_nv_b c).2
    · rw [if_neg c]; exact h2
  · unfold u_nx u_nr u_fl
    by_cases c : u_nk f n lo hi p = 0
    · simp only [if_pos c]
      exact ⟨fun _ => ⟨trivial, trivial⟩, fun he => ⟨trivial, trivial, he, trivial⟩⟩
    · simp only [if_neg c]
      exact ⟨fun he => by rw [if_neg he]; exact ⟨rfl, rfl⟩, fun he => by rw [if_pos he]; exact ⟨rfl, rfl, c⟩⟩
def u_up (g : Nat → Nat) (k v : Nat) : Nat → Nat := fun j => if j = k then v else g j
def u_vals (f : Nat → Int) (n k p : Nat) (g : Nat → Nat) : (Int × Int) ⊕ (Nat × (Nat → Nat)) := match k with
  | 0 => (match u_nr f n 1 6 p with
    | .inl x => .inl x
    | .inr x => (match u_nr f n 1 6 x.2 with
      | .inl y => .inl y
      | .inr y => .inr (y.2, u_up (u_up g 0 x.1.toNat) 1 y.1.toNat)))
  | 1 => (match u_nr f n 1 99 p with
    | .inl x => .inl x
    | .inr x => (match u_nr f n 1 99 x.2 with
      | .inl y => .inl y
      | .inr y => .inr (y.2, u_up (u_up g 2 x.1.toNat) 3 y.1.toNat)))
  | 2 => (match u_nr f n 0 ((g 0 : Int) + (g 1 : Int) - 1) p with
    | .inl x => .inl x
    | .inr x => .inr (x.2, u_up g 4 (g 4 ||| 1 <<< x.1.toNat)))
  | 3 => (match u_nr f n 0 2 p with
    | .inl x => .inl x
    | .inr x => .inr (x.2, u_up g 5 x.1.toNat))
  | _ => (match u_nr f n 1 9999 p with
    | .inl x => .inl x
    | .inr x => .inr (x.2, u_up g 6 x.1.toNat))
def u_gr (g : Nat → Nat) : Prop := 1 ≤ g 0 ∧ g 0 ≤ 6 ∧ 1 ≤ g 1 ∧ g 1 ≤ 6 ∧ 1 ≤ g 2 ∧ g 2 ≤ 99 ∧ 1 ≤ g 3 ∧ g 3 ≤ 99 ∧ g 4 < 4096 ∧ g 5 ≤ 2 ∧ 1 ≤ g 6 ∧ g 6 ≤ 9999
def u_BF (m : y_m) (b : Nat) (g : Nat → Nat) : Prop := u_gr g ∧ ∀ k, k < 7 → y_mI m b k = (g k : Nat)
theorem u_BF_F {Q : Nat → Nat → Prop} {m' : y_m} (h : u_BF m b g) (hF : q_F Q m m') (hQ : ∀ a k, Q a k → a ≠ b) : u_BF m' b g := ⟨h.1, fun k hk => by rw [q_F_I hF b k (fun r => hQ _ _ r rfl)]; exact h.2 k hk⟩
theorem u_BF_up {k v : Nat} {x : Int} (h : u_BF m b g) (hx : x = v) (hg : u_gr (u_up g k v)) : u_BF (y_sI m b k x) b (u_up g k v) := ⟨hg, fun j hj => by
  unfold u_up
  by_cases c : j = k
  · subst c; rw [e_II, if_pos rfl, hx]
  · rw [e_II' (by omega), if_neg c]; exact h.2 j hj⟩
theorem u_TP_sI {a k : Nat} {x : Int} (h : u_TP m f n p e q) (h1 : a ≠ 1) (h2 : a ≠ 2) : u_TP (y_sI m a k x) f n p e q := u_TP_F (Q := fun y z => y = a ∧ z = k) h (q_F_sI ⟨rfl, rfl⟩) (fun y z r => by omega)
/-- what reading values comes to -/
def u_vx (e q : Int) (r : (Int × Int) ⊕ (Nat × (Nat → Nat))) (p' : Nat) (g' : Nat → Nat) (e' q' : Int) : Prop := (e ≠ 0 → e' = e ∧ q' = q) ∧ (e = 0 → match r with
  | .inl x => e' = x.1 ∧ q' = x.2 ∧ x.1 ≠ 0
  | .inr x => p' = x.1 ∧ g' = x.2 ∧ e' = 0 ∧ q' = q)
def u_tb (b a k : Nat) : Prop := u_tf a k ∨ a = b
/-- two numbers into two places -/
theorem l_37two {i j : Nat} (h : u_TP m f n p e q) (hG : u_BF m b g) (hb : b = 29 ∨ b = 30) (hij : (i = 0 ∧ j = 1 ∧ hi = 6) ∨ (i = 2 ∧ j = 3 ∧ hi = 99)) : ∃ v1 v2 m1 m2 p' g' e' q', y_V sp ph (d + 4) 28 [y_bo 6 0 1, y_bi 1, y_bi hi] m = y_rI v1 m1 ∧ y_V sp ph (d + 4) 28 [y_bo 6 0 1, y_bi 1, y_bi hi] (y_sI m1 b i v1) = y_rI v2 m2 ∧ q_F (u_tb b) m (y_sI m2 b j v2) ∧ u_TP (y_sI m2 b j v2) f n p' e' q' ∧ u_BF (y_sI m2 b j v2) b g' ∧ u_vx e q (match u_nr f n 1 hi p with
    | .inl x => .inl x
    | .inr x => (match u_nr f n 1 hi x.2 with
      | .inl y => .inl y
      | .inr y => .inr (y.2, u_up (u_up g i x.1.toNat) j y.1.toNat))) p' g' e' q' := by
  obtain ⟨v1, p1, e1, q1, m1, a1, a2, a3, a4, a5, a6⟩ := s_28x (sp := sp) (ph := ph) (d := d) (lo := 1) (hi := hi) h (by omega) (by omega) (by omega)
  have hG1 := u_BF_F (m' := m1) hG a2 (fun a k r => by unfold u_tf at r; omega)
  have hG2 : u_BF (y_sI m1 b i v1) b (u_up g i v1.toNat) := u_BF_up hG1 (by omega) (by
    obtain ⟨g0, _⟩ := hG
    unfold u_gr u_up at *
    rcases hij with ⟨rfl, rfl, rfl⟩ | ⟨rfl, rfl, rfl⟩ <;> simp <;> omega)
  obtain ⟨v2, p2, e2, q2, m2, b1, b2, b3, b4, b5, b6⟩ := s_28x (sp := sp) (ph := ph) (d := d) (lo := 1) (hi := hi) (u_TP_sI (a := b) (k := i) (x := v1) a3 (by omega) (by omega)) (by omega) (by omega) (by omega)
  have hG3 := u_BF_F (m' := m2) hG2 b2 (fun a k r => by unfold u_tf at r; omega)
  have hG4 : u_BF (y_sI m2 b j v2) b (u_up (u_up g i v1.toNat) j v2.toNat) := u_BF_up hG3 (by omega) (by
    obtain ⟨g0, _⟩ := hG
    unfold u_gr u_up at *
    rcases hij with ⟨rfl, rfl, rfl⟩ | ⟨rfl, rfl, rfl⟩ <;> simp <;> omega)
  refine ⟨v1, v2, m1, m2, p2, _, e2, q2, a1, b1, q_F_trans (q_F_mono a2 (fun a k r => Or.inl r)) (q_F_trans (q_F_sI (Or.inr rfl)) (q_F_trans (q_F_mono b2 (fun a k r => Or.inl r)) (q_F_sI (Or.inr rfl)))), u_TP_sI b3 (by omega) (by omega), hG4, ?_, ?_⟩
  · intro he
    obtain ⟨x1, x2⟩ := a6.1 he
    obtain ⟨y1, y2⟩ := b6.1 (by rw [x1]; exact he)
    exact ⟨by rw [y1, x1], by rw [y2, x2]⟩
  · intro he
    have x := a6.2 he
    cases hr : u_nr f n 1 hi p with
    | inl r =>
      rw [hr] at x
      dsimp only at x
      obtain ⟨y1, y2⟩ := b6.1 (by rw [x.1]; exact x.2.2)
      exact ⟨by rw [y1, x.1], by rw [y2, x.2.1], x.2.2⟩
    | inr r =>
      rw [hr] at x
      dsimp only at x
      obtain ⟨x1, x2, x3, x4⟩ := x
      have y := b6.2 x3
      rw [x2] at y
      dsimp only
      cases hr2 : u_nr f n 1 hi r.2 with
      | inl r2 =>
        rw [hr2] at y
        exact y
      | inr r2 =>
        rw [hr2] at y
        dsimp only at y ⊢
        obtain ⟨y1, y2, y3, y4⟩ := y
        exact ⟨y2, by rw [x1, y1], y3, by rw [y4, x4]⟩
/-- one number into a place -/
theorem l_37one {i : Nat} {w : Int → Nat} {z : Int → Int} (h : u_TP m f n p e q) (hG : u_BF m b g) (hb : b = 29 ∨ b = 30) (h1 : -1000000 ≤ lo) (h2 : lo ≤ hi) (h3 : hi ≤ 1000000) (hz : ∀ v, lo ≤ v → v ≤ hi → z v = w v) (hw : ∀ v, lo ≤ v → v ≤ hi → u_gr (u_up g i (w v))) : ∃ v1 m1 p' g' e' q', y_V sp ph (d + 4) 28 [y_bo 6 0 1, y_bi lo, y_bi hi] m = y_rI v1 m1 ∧ q_F (u_tb b) m (y_sI m1 b i (z v1)) ∧ u_TP (y_sI m1 b i (z v1)) f n p' e' q' ∧ u_BF (y_sI m1 b i (z v1)) b g' ∧ u_vx e q (match u_nr f n lo hi p with
    | .inl x => .inl x
    | .inr x => .inr (x.2, u_up g i (w x.1))) p' g' e' q' := by
  obtain ⟨v1, p1, e1, q1, m1, a1, a2, a3, a4, a5, a6⟩ := s_28x (sp := sp) (ph := ph) (d := d) (lo := lo) (hi := hi) h h1 h2 h3
  have hG1 := u_BF_F (m' := m1) hG a2 (fun a k r => by unfold u_tf at r; omega)
  have hG2 : u_BF (y_sI m1 b i (z v1)) b (u_up g i (w v1)) := u_BF_up hG1 (hz v1 a4 a5) (hw v1 a4 a5)
  refine ⟨v1, m1, p1, _, e1, q1, a1, q_F_trans (q_F_mono a2 (fun a k r => Or.inl r)) (q_F_sI (Or.inr rfl)), u_TP_sI a3 (by omega) (by omega), hG2, a6.1, ?_⟩
  intro he
  have x := a6.2 he
  cases hr : u_nr f n lo hi p with
  | inl r => rw [hr] at x; exact x
  | inr r =>
    rw [hr] at x
    dsimp only at x ⊢
    obtain ⟨x1, x2, x3, x4⟩ := x
    exact ⟨x2, by rw [x1], x3, x4⟩
end Clause
