/-! ===== within, guess: the reference goes through pairs ===== -/
section Guess
variable {sp : Nat → Nat} {ph : Bool} {d : Nat} {m m' : y_m} {L R A B t lw X n b : Nat} {P : List (Nat × Nat)}
theorem u_flat_le {α : Type} {f : Nat → List α} {N : Nat} (h : ∀ i, (f i).length ≤ N) : ∀ (c i : Nat), ((List.range' i c).flatMap f).length ≤ c * N
  | 0, i => by rw [List.range'_zero, List.flatMap_nil]; exact Nat.zero_le _
  | c + 1, i => by
    rw [List.range'_succ, List.flatMap_cons, List.length_append]
    have h1 := u_flat_le h c (i + 1)
    have h2 := h i
    rw [Nat.add_mul, Nat.one_mul]; omega
theorem u_rl_le (hl : P.length ≤ 6) : ∀ (k used : Nat) (w : List Nat), (u_rl P k used w).length ≤ 12 ^ k
  | 0, _, _ => Nat.le_refl _
  | k + 1, used, w => by
    have ih := fun u v => u_rl_le hl k u v
    rw [u_rl]
    refine Nat.le_trans (u_flat_le (N := 2 * 12 ^ k) (fun i => ?_) P.length 0) ?_
    · split
      · exact Nat.zero_le _
      · rw [List.length_append]
        have h1 := ih (used ||| 2 ^ i) (w ++ [(P.getD i (0, 0)).1, (P.getD i (0, 0)).2])
        have h2 := ih (used ||| 2 ^ i) (w ++ [(P.getD i (0, 0)).2, (P.getD i (0, 0)).1])
        omega
    · rw [Nat.pow_succ]
      generalize 12 ^ k = q
      have : P.length * (2 * q) ≤ 6 * (2 * q) := Nat.mul_le_mul hl (Nat.le_refl _)
      omega
theorem u_xwr_add {w : List Nat} {x y : Nat} (h : u_xwr m w) : u_xwr (y_sI (y_sI m 102 w.length (x : Int)) 102 (w.length + 1) (y : Int)) (w ++ [x, y]) := fun i hi => by
  rw [List.length_append] at hi
  have hi2 : i < w.length + 2 := hi
  by_cases c1 : i < w.length
  · rw [e_II' (by omega), e_II' (by omega), h i c1, List.getD_eq_getElem?_getD, List.getD_eq_getElem?_getD, List.getElem?_append_left c1]
  · by_cases c2 : i = w.length
    · subst c2
      rw [e_II' (by omega), e_II, List.getD_eq_getElem?_getD, List.getElem?_append_right (Nat.le_refl _), Nat.sub_self]; rfl
    · have c3 : i = w.length + 1 := by omega
      subst c3
      rw [e_II, List.getD_eq_getElem?_getD, List.getElem?_append_right (by omega), show w.length + 1 - w.length = 1 by omega]; rfl
theorem u_wr_F {p : Nat} {w : List Nat} (h : u_xwr m w) (hF : q_F (u_hF p) m m') (hp : w.length ≤ p) : u_xwr m' w := fun i hi => by rw [q_F_I hF 102 i (by unfold u_hF; omega)]; exact h i hi
theorem u_gs_F {c : Nat} {o : Option (List Nat)} (h : u_gs m n c o) (hF : q_F (fun a _ => a = 102) m m') : u_gs m' n c o := ⟨by rw [q_F_I hF 49 43 (by omega)]; exact h.1, h.2.1, h.2.2.1, fun b hb => ⟨(h.2.2.2 b hb).1, (h.2.2.2 b hb).2.1, fun i hi => by rw [q_F_I hF 97 i (by omega)]; exact (h.2.2.2 b hb).2.2 i hi⟩⟩
def u_ft (L lw n : Nat) (o : Option (List Nat)) (l : List (List Nat)) : Option (List Nat) := (l.filter (u_la L lw)).foldl (fun o w => u_bs n o (q_own w)) o
def u_ct (L lw : Nat) (l : List (List Nat)) : Nat := (l.filter (u_la L lw)).length
theorem u_ft_app {o : Option (List Nat)} {l l' : List (List Nat)} : u_ft L lw n o (l ++ l') = u_ft L lw n (u_ft L lw n o l) l' := by
  unfold u_ft
  rw [List.filter_append, List.foldl_append]
theorem u_ct_app {l l' : List (List Nat)} : u_ct L lw (l ++ l') = u_ct L lw l + u_ct L lw l' := by
  unfold u_ct
  rw [List.filter_append, List.length_append]
theorem u_ct_le {l : List (List Nat)} : u_ct L lw l ≤ l.length := List.length_filter_le _ _
def u_R0 (m : y_m) (L lw : Nat) (P : List (Nat × Nat)) : Prop := y_mI m 52 0 = (L : Int) ∧ L ≤ 6 ∧ y_mI m 52 4 = (lw : Int) ∧ lw ≤ 2 ∧ u_PR m P ∧ P.length ≤ 6 ∧ (∀ h ∈ u_fp P, h < 12)
theorem u_R0_F {S : Nat → Nat → Prop} (h : u_R0 m L lw P) (hF : q_F S m m') (hS : ∀ a k, S a k → a ≠ 52 ∧ (a < 56 ∨ 61 < a) ∧ (a ≠ 49 ∨ k ≠ 14)) : u_R0 m' L lw P := by
  obtain ⟨h1, h2, h3, h4, h5, h6, h7⟩ := h
  refine ⟨by rw [q_F_I hF 52 0 (fun q => (hS _ _ q).1 rfl)]; exact h1, h2, by rw [q_F_I hF 52 4 (fun q => (hS _ _ q).1 rfl)]; exact h3, h4, ⟨by rw [q_F_I hF 49 14 (fun q => by have := (hS _ _ q).2.2; omega)]; exact h5.1, fun i hi => ⟨?_, ?_⟩⟩, h6, h7⟩
  · rw [q_F_I hF (56 + i) 0 (fun q => by have := (hS _ _ q).2.1; omega)]; exact (h5.2 i hi).1
  · rw [q_F_I hF (56 + i) 1 (fun q => by have := (hS _ _ q).2.1; omega)]; exact (h5.2 i hi).2
theorem u_getD_fp {i : Nat} (hi : i < P.length) : (P.getD i (0, 0)).1 ∈ u_fp P ∧ (P.getD i (0, 0)).2 ∈ u_fp P := by
  have e : P.getD i (0, 0) ∈ P := by
    rw [List.getD_eq_getElem?_getD, List.getElem?_eq_getElem hi]; exact List.getElem_mem _
  exact ⟨u_fp_mem.mpr ⟨_, e, Or.inl rfl⟩, u_fp_mem.mpr ⟨_, e, Or.inr rfl⟩⟩
theorem l_276 (hn : n = 2 * P.length) (hn1 : 1 ≤ n) : ∀ (k used : Nat) (w : List Nat) (m : y_m) (c : Nat) (o : Option (List Nat)), w.length + 2 * k = n → used < 64 → (∀ x ∈ w, x < 12) → u_R0 m L lw P → u_gs m n c o → c + (u_rl P k used w).length < 999999999 → u_xwr m w → ∃ m', y_V sp ph (d + 4 + k) 276 [y_bo 11 0 49, y_bi (used : Int), y_bi (w.length : Int)] m = y_rV m' ∧ q_F (u_hF w.length) m m' ∧ u_gs m' n (c + u_ct L lw (u_rl P k used w)) (u_ft L lw n o (u_rl P k used w)) := by
  intro k
  induction k with
  | zero =>
    intro used w m c o hk hu hb h0 hG hc hw
    have hl6 := h0.2.2.2.2.2.1
    obtain ⟨m1, a1, a2, a3⟩ := l_276h (sp := sp) (ph := ph) (d := d + 1) hG (by omega) hw (by omega) hn1 (by omega) hb h0.1 h0.2.1 h0.2.2.1 h0.2.2.2.1
    have e14 : y_mI m 49 14 = (P.length : Int) := h0.2.2.2.2.1.1
    have el : u_rl P 0 used w = [w] := rfl
    refine ⟨m1, ?_, q_F_mono a2 (fun a k q => by unfold u_hF at *; omega), ?_⟩
    · rw [Nat.add_zero, y_C_276, y_E_276_0, e14, if_neg (fun r => r (by rw [z_w_id (by omega) (by omega), z_w_id (by omega) (by omega)]; omega))]
      rw [show (w.length : Int) = (n : Int) by omega]
      exact a1
    · rw [el]
      unfold u_ct u_ft
      rw [List.filter_cons]
      by_cases q : u_la L lw w = true
      · rw [if_pos q, if_pos q] at a3
        rw [if_pos q]
        exact a3
      · rw [if_neg q, if_neg q] at a3
        rw [if_neg q]
        exact a3
  | succ k ih =>
    intro used w m c o hk hu hb h0 hG hc hw
    have hl6 := h0.2.2.2.2.2.1
    have e14 : y_mI m 49 14 = (P.length : Int) := h0.2.2.2.2.1.1
    have loop : ∀ (c' i : Nat) (m : y_m) (c : Nat) (o : Option (List Nat)), i + c' = P.length → u_R0 m L lw P → u_gs m n c o → c + ((List.range' i c').flatMap (fun i => if used.testBit i then [] else u_rl P k (used ||| 2 ^ i) (w ++ [(P.getD i (0, 0)).1, (P.getD i (0, 0)).2]) ++ u_rl P k (used ||| 2 ^ i) (w ++ [(P.getD i (0, 0)).2, (P.getD i (0, 0)).1]))).length < 999999999 → u_xwr m w → ∃ m', y_R sp ph (d + 4 + k) 276 135 [some (y_bo 11 0 49), some (y_bi (used : Int)), some (y_bi (w.length : Int)), some (y_bi (i : Int)), none] [] m = y_rV m' ∧ q_F (u_hF w.length) m m' ∧ u_gs m' n (c + u_ct L lw ((List.range' i c').flatMap (fun i => if used.testBit i then [] else u_rl P k (used ||| 2 ^ i) (w ++ [(P.getD i (0, 0)).1, (P.getD i (0, 0)).2]) ++ u_rl P k (used ||| 2 ^ i) (w ++ [(P.getD i (0, 0)).2, (P.getD i (0, 0)).1])))) (u_ft L lw n o ((List.range' i c').flatMap (fun i => if used.testBit i then [] else u_rl P k (used ||| 2 ^ i) (w ++ [(P.getD i (0, 0)).1, (P.getD i (0, 0)).2]) ++ u_rl P k (used ||| 2 ^ i) (w ++ [(P.getD i (0, 0)).2, (P.getD i (0, 0)).1])))) := by
      intro c'
      induction c' with
      | zero =>
        intro i m c o hi h0 hG hc hw
        refine ⟨m, ?_, q_F_refl, ?_⟩
        · rw [y_E_276_135, h0.2.2.2.2.1.1, if_pos (by rw [z_w_id (by omega) (by omega), z_w_id (by omega) (by omega)]; omega), y_E_276_222]
        · exact hG
      | succ c' ihc =>
        intro i m c o hi h0 hG hc hw
        rw [List.range'_succ, List.flatMap_cons] at hc ⊢
        rw [List.length_append] at hc
        rw [u_ct_app, u_ft_app]
        have e14 : y_mI m 49 14 = (P.length : Int) := h0.2.2.2.2.1.1
        have nb := n_bit (s := used) (h := i) (by omega) (by omega)
        have n216 : ∀ M : y_m, y_R sp ph (d + 4 + k) 276 216 [some (y_bo 11 0 49), some (y_bi (used : Int)), some (y_bi (w.length : Int)), some (y_bi (i : Int)), none] [] M = y_R sp ph (d + 4 + k) 276 135 [some (y_bo 11 0 49), some (y_bi (used : Int)), some (y_bi (w.length : Int)), some (y_bi ((i + 1 : Nat) : Int)), none] [] M := fun M => by
          rw [y_E_276_216, show (i : Int) + 1 = ((i + 1 : Nat) : Int) by omega]
        rw [y_E_276_135, e14, if_neg (by rw [z_w_id (by omega) (by omega), z_w_id (by omega) (by omega)]; omega), nb]
        by_cases cb : used.testBit i = true
        · rw [if_pos cb] at hc ⊢
          rw [if_pos cb, if_neg (by decide), n216]
          obtain ⟨m2, r1, r2, r3⟩ := ihc (i + 1) m c o (by omega) h0 hG (by rw [List.length_nil] at hc; omega) hw
          rw [show u_ct L lw ([] : List (List Nat)) = 0 from rfl, Nat.zero_add, show u_ft L lw n o ([] : List (List Nat)) = o from rfl]
          exact ⟨m2, r1, r2, r3⟩
        · rw [if_neg cb] at hc ⊢
          rw [if_neg cb, if_pos (by decide), y_E_276_155, u_ct_app, u_ft_app]
          rw [List.length_append] at hc
          have pi := h0.2.2.2.2.1.2 i (by omega)
          have mi := u_getD_fp (P := P) (i := i) (by omega)
          have b1 := h0.2.2.2.2.2.2 _ mi.1
          have b2 := h0.2.2.2.2.2.2 _ mi.2
          generalize hxx : (P.getD i (0, 0)).1 = x at *
          generalize hyy : (P.getD i (0, 0)).2 = y at *
          have i6 : i < 6 := by omega
          have h2i : 2 ^ i < 64 := Nat.pow_lt_pow_right (a := 2) (by decide) (show i < 6 from i6)
          have hor : used ||| 2 ^ i < 64 := Nat.or_lt_two_pow (n := 6) hu h2i
          have eor : z_ior (used : Int) (z_ishl 1 (i : Int)) = ((used ||| 2 ^ i : Nat) : Int) := by
            rw [n_one (by omega), n_ior (by omega) (by omega)]
          have bxy : ∀ x y : Nat, x < 12 → y < 12 → ∀ z ∈ w ++ [x, y], z < 12 := fun x y hx hy z hz => by
            rcases List.mem_append.mp hz with q | q
            · exact hb z q
            · simp at q; omega
          have e2 : (w.length : Int) + 2 = ((w ++ [x, y]).length : Int) := by rw [List.length_append]; show _ = ((w.length + 2 : Nat) : Int); omega
          have e2' : (w.length : Int) + 2 = ((w ++ [y, x]).length : Int) := by rw [List.length_append]; show _ = ((w.length + 2 : Nat) : Int); omega
          have l2 : (w ++ [x, y]).length = w.length + 2 := by simp
          have l2' : (w ++ [y, x]).length = w.length + 2 := by simp
          have FA : q_F (fun a _ => a = 102) m (y_sI (y_sI m 102 w.length (x : Int)) 102 (w.length + 1) (y : Int)) := q_F_trans (q_F_sI rfl) (q_F_sI rfl)
          have FA' : q_F (u_hF w.length) m (y_sI (y_sI m 102 w.length (x : Int)) 102 (w.length + 1) (y : Int)) := q_F_trans (q_F_sI (by unfold u_hF; omega)) (q_F_sI (by unfold u_hF; omega))
          obtain ⟨m1, a1, a2, a3⟩ := ih (used ||| 2 ^ i) (w ++ [x, y]) (y_sI (y_sI m 102 w.length (x : Int)) 102 (w.length + 1) (y : Int)) c o (by omega) hor (bxy x y b1 b2) (u_R0_F h0 FA (fun a k q => by omega)) (u_gs_F hG FA) (by omega) (u_xwr_add hw)
          have F1 : q_F (u_hF w.length) m m1 := q_F_trans FA' (q_F_mono a2 (fun a k q => by rw [l2] at q; unfold u_hF at *; omega))
          have R1 := u_R0_F h0 F1 (fun a k q => by unfold u_hF at q; omega)
          have W1 := u_wr_F hw F1 (Nat.le_refl _)
          have FB : q_F (fun a _ => a = 102) m1 (y_sI (y_sI m1 102 w.length (y : Int)) 102 (w.length + 1) (x : Int)) := q_F_trans (q_F_sI rfl) (q_F_sI rfl)
          have FB' : q_F (u_hF w.length) m1 (y_sI (y_sI m1 102 w.length (y : Int)) 102 (w.length + 1) (x : Int)) := q_F_trans (q_F_sI (by unfold u_hF; omega)) (q_F_sI (by unfold u_hF; omega))
          have cle := u_ct_le (L := L) (lw := lw) (l := u_rl P k (used ||| 2 ^ i) (w ++ [x, y]))
          have cle2 := u_ct_le (L := L) (lw := lw) (l := u_rl P k (used ||| 2 ^ i) (w ++ [y, x]))
          obtain ⟨m2, d1, d2, d3⟩ := ih (used ||| 2 ^ i) (w ++ [y, x]) (y_sI (y_sI m1 102 w.length (y : Int)) 102 (w.length + 1) (x : Int)) _ _ (by omega) hor (bxy y x b2 b1) (u_R0_F R1 FB (fun a k q => by omega)) (u_gs_F a3 FB) (by omega) (u_xwr_add W1)
          have F2 : q_F (u_hF w.length) m m2 := q_F_trans F1 (q_F_trans FB' (q_F_mono d2 (fun a k q => by rw [l2'] at q; unfold u_hF at *; omega)))
          have R2 := u_R0_F h0 F2 (fun a k q => by unfold u_hF at q; omega)
          have W2 := u_wr_F hw F2 (Nat.le_refl _)
          obtain ⟨m3, f1, f2, f3⟩ := ihc (i + 1) m2 _ _ (by omega) R2 d3 (by omega) W2
          have p1 := R1.2.2.2.2.1.2 i (by omega)
          rw [hxx, hyy] at p1
          refine ⟨m3, ?_, q_F_trans F2 f2, by rw [Nat.add_assoc c, Nat.add_assoc c] at f3; exact f3⟩
          have step : ∀ (M : y_m) (x4 : Nat) (u v : Nat), x4 < 2 → y_mI M (56 + i) x4 = (u : Int) → y_mI M (56 + i) (1 - x4) = (v : Int) → y_R sp ph (d + 4 + k) 276 158 [some (y_bo 11 0 49), some (y_bi (used : Int)), some (y_bi (w.length : Int)), some (y_bi (i : Int)), some (y_bi (x4 : Int))] [] M = y_bV (y_V sp ph (d + 4 + k) 276 [y_bo 11 0 49, y_bi ((used ||| 2 ^ i : Nat) : Int), y_bi ((w.length : Int) + 2)] (y_sI (y_sI M 102 w.length (u : Int)) 102 (w.length + 1) (v : Int))) (fun m1 => y_R sp ph (d + 4 + k) 276 158 [some (y_bo 11 0 49), some (y_bi (used : Int)), some (y_bi (w.length : Int)), some (y_bi (i : Int)), some (y_bi ((x4 + 1 : Nat) : Int))] [] m1) (fun e m1 => y_px e m1) := fun M x4 u v hx4 hu1 hv1 => by
            rw [y_E_276_158, if_neg (by rw [z_w_id (by omega) (by omega)]; omega), e_g ⟨by omega, by omega⟩, e_g ⟨by omega, by omega⟩, e_g ⟨by omega, by omega⟩, e_g ⟨by omega, by omega⟩, e_g ⟨by omega, by omega⟩, e_g ⟨by omega, by omega⟩]
            simp only [Int.toNat_natCast, Nat.one_mul]
            rw [show ((1 : Int) - (x4 : Int)).toNat = 1 - x4 by omega, show ((w.length : Int) + 1).toNat = w.length + 1 by omega, hu1, e_II' (by omega), hv1, eor, show (x4 : Int) + 1 = ((x4 + 1 : Nat) : Int) by omega]
          have s1 := step m 0 x y (by omega) pi.1 pi.2
          have s2 := step m1 1 y x (by omega) p1.2 p1.1
          have s1' : y_R sp ph (d + 4 + k) 276 158 [some (y_bo 11 0 49), some (y_bi (used : Int)), some (y_bi (w.length : Int)), some (y_bi (i : Int)), some (y_bi 0)] [] m = _ := s1
          rw [s1', e2, a1, e_bV]
          show y_R sp ph (d + 4 + k) 276 158 [some (y_bo 11 0 49), some (y_bi (used : Int)), some (y_bi (w.length : Int)), some (y_bi (i : Int)), some (y_bi ((1 : Nat) : Int))] [] m1 = _
          rw [s2, e2', d1, e_bV, y_E_276_158, if_pos (by decide), n216]
          exact f1
    obtain ⟨m2, r1, r2, r3⟩ := loop P.length 0 m c o (by omega) h0 hG hc hw
    refine ⟨m2, ?_, r2, r3⟩
    rw [show d + 4 + (k + 1) = (d + 4 + k) + 1 by omega, y_C_276, y_E_276_0, e14, if_pos (by rw [z_w_id (by omega) (by omega), z_w_id (by omega) (by omega)]; omega), y_E_276_133]
    exact r1
end Guess
