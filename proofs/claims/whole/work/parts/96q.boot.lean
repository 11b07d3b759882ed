/-! ===== a boot stands: its numbers ===== -/
theorem q_sq_ex : ∀ N : Nat, ∃ s : Nat, s * s ≤ N ∧ N < (s + 1) * (s + 1)
  | 0 => ⟨0, by omega, by omega⟩
  | N + 1 => by
    obtain ⟨s, h1, h2⟩ := q_sq_ex N
    by_cases c : (s + 1) * (s + 1) ≤ N + 1
    · refine ⟨s + 1, c, ?_⟩
      have e : (s + 1 + 1) * (s + 1 + 1) = (s + 1) * (s + 1) + 2 * s + 3 := by grind
      omega
    · exact ⟨s, by omega, by omega⟩
theorem q_Fex_all (A B : Nat) : q_Fex A B := by
  intro k h1 h2
  obtain ⟨s, a, b⟩ := q_sq_ex (q_r A B k * 100 ^ 220)
  have e : ((q_r A B k * 100 ^ 220 : Nat) : Int) = (q_r A B k : Int) * 100 ^ 220 := by
    rw [Int.natCast_mul, Int.natCast_pow]; rfl
  have hi : q_isF (q_r A B k) (s : Int) := by
    refine ⟨Int.natCast_nonneg s, ?_, ?_⟩
    · rw [← e, ← Int.natCast_mul]; exact Int.ofNat_le.mpr a
    · rw [← e, show (s : Int) + 1 = ((s + 1 : Nat) : Int) from rfl, ← Int.natCast_mul]; exact Int.ofNat_lt.mpr b
  rw [q_Fv_eq hi]; exact hi
theorem m_B_ok {L R A B : Nat} (ok : v_Ok) (h1 : L ≤ 6) (h2 : R ≤ 6) (h3 : 1 ≤ A) (h4 : A ≤ 99) (h5 : 1 ≤ B) (h6 : B ≤ 99) : m_B L R A B :=
  ⟨h1, h2, h3, h4, h5, h6, ok A B h3 h4 h5 h6, q_Fex_all A B⟩
theorem q_sq_one {N s t : Nat} (h1 : s * s ≤ N) (h2 : N < (s + 1) * (s + 1)) (h3 : t * t ≤ N) (h4 : N < (t + 1) * (t + 1)) : s = t := by
  rcases Nat.lt_trichotomy s t with c | c | c
  · have := Nat.mul_le_mul (show s + 1 ≤ t by omega) (show s + 1 ≤ t by omega); omega
  · exact c
  · have := Nat.mul_le_mul (show t + 1 ≤ s by omega) (show t + 1 ≤ s by omega); omega
theorem q_pl_a {A N D V : Nat} (hD : 0 < D) (h : A * 1024 * N = V * D) : A * (N / D) * 1024 + A * (N % D) * 1024 / D = V := by
  have e := Nat.div_add_mod N D
  generalize N / D = x at *
  generalize N % D = y at *
  have e3 : A * y * 1024 + (A * x * 1024) * D = V * D := by
    rw [← h, ← e]; grind
  have e4 : (A * y * 1024 + (A * x * 1024) * D) / D = A * y * 1024 / D + A * x * 1024 := Nat.add_mul_div_right _ _ hD
  rw [e3, Nat.mul_div_cancel _ hD] at e4
  rw [Nat.add_comm]; exact e4.symm
theorem q_pl_0 {A : Nat} (hA : 1 ≤ A) : q_pl A (A * A) (A * 2 ^ 48) 0 = 2 ^ 58 := by
  unfold q_pl
  have hp : 0 < A * A := Nat.mul_pos hA hA
  rw [Nat.mul_zero, Nat.zero_div, Nat.add_zero]
  refine q_pl_a hp ?_
  rw [show (2 : Nat) ^ 58 = 1024 * 2 ^ 48 by decide]
  generalize (2 : Nat) ^ 48 = z
  grind
theorem m_ms_ok {m : y_m} {L R A B g : Nat} (hB : m_B L R A B) (hg : g < 6) (h : q_ms m g A (A * A + g * g * B * B)) : y_mJ m 4 g = w_ln A B g ∧ y_mJ m 5 g = w_pu A B g := by
  obtain ⟨root, a1, a2, a3, a4, a5, a6⟩ := h
  obtain ⟨b1, b2, b3, b4, b5, b6, b7, b8⟩ := hB
  unfold w_ln w_pu
  by_cases c : g = 0
  · subst c
    have er : A * A + 0 * 0 * B * B = A * A := by simp
    rw [er] at a1 a2 a4 a6
    have es : (A * 2 ^ 48) * (A * 2 ^ 48) = A * A * 2 ^ 96 := by
      rw [show (2 : Nat) ^ 96 = 2 ^ 48 * 2 ^ 48 by decide]
      generalize (2 : Nat) ^ 48 = z
      grind
    have eq : root = A * 2 ^ 48 := q_sq_one a1 a2 (by rw [es]; exact Nat.le_refl _) (by
      have e : (A * 2 ^ 48 + 1) * (A * 2 ^ 48 + 1) = (A * 2 ^ 48) * (A * 2 ^ 48) + 2 * (A * 2 ^ 48) + 1 := by
        generalize A * 2 ^ 48 = z
        grind
      rw [e, es]; omega)
    rw [if_pos rfl, if_pos rfl, a5, a6, eq, es, Nat.sub_self, Nat.zero_mul, Nat.zero_div, q_pl_0 b3]
    refine ⟨?_, rfl⟩
    rw [Int.natCast_mul]; rfl
  · obtain ⟨v1, v2⟩ := v_rok_ok ((v_boot_ok b7).1 g (by omega) hg)
    have eq : root = v_rt A B g := q_sq_one a1 a2 v1 v2
    rw [if_neg c, if_neg c, a5, a6, eq]
    exact ⟨rfl, rfl⟩
section Boot
variable {sp : Nat → Nat} {ph : Bool} {d : Nat} {m : y_m} {f : Nat → Int} {n p cnt : Nat} {e q : Int} {g : Nat → Nat}
/-- what the reference knows of its tape -/
def u_Rt (m : y_m) (f : Nat → Int) (N : Nat) : Prop := y_mI m 49 1 = N ∧ N ≤ 400 ∧ ∀ i, i < N → y_mI m 50 i = f i ∧ 0 ≤ f i ∧ f i < 256
def u_Ct (m : y_m) (f : Nat → Int) (N : Nat) : Prop := y_mI m 1 1 = N ∧ N ≤ 400 ∧ ∀ i, i < N → y_mI m 2 i = f i ∧ 0 ≤ f i ∧ f i < 256
def u_sq (a k : Nat) : Prop := a = 49 ∧ 1 ≤ k ∧ k ≤ 7
theorem t_191 {N : Nat} (h : u_Rt m f N) (hn : n ≤ N) : ∃ m', y_V sp ph (d + 3) 191 [y_bo 11 0 49, y_bi (n : Int)] m = y_rV m' ∧ q_F u_sq m m' ∧ u_RP m' f n (u_sc u_bl f n 0) 0 (-1) 0 ∧ y_mI m' 49 1 = 0 := by
  obtain ⟨h1, h2, h3⟩ := h
  have F0 : q_F u_sq m (y_sI (y_sI (y_sI (y_sI (y_sI (y_sI m 49 1 0) 49 2 (n : Int)) 49 4 0) 49 5 0) 49 6 (-1)) 49 7 0) := q_F_trans (q_F_sI (by unfold u_sq; omega)) (q_F_trans (q_F_sI (by unfold u_sq; omega)) (q_F_trans (q_F_sI (by unfold u_sq; omega)) (q_F_trans (q_F_sI (by unfold u_sq; omega)) (q_F_trans (q_F_sI (by unfold u_sq; omega)) (q_F_sI (by unfold u_sq; omega))))))
  have hP : u_RP (y_sI (y_sI (y_sI (y_sI (y_sI (y_sI m 49 1 0) 49 2 (n : Int)) 49 4 0) 49 5 0) 49 6 (-1)) 49 7 0) f n 0 0 (-1) 0 := by
    refine ⟨⟨by omega, fun i hi => (h3 i (by omega)).2⟩, Nat.zero_le _, ?_, ?_, ?_, ?_, ?_, by omega, by omega, fun i hi => ?_⟩
    · rw [e_II' (by omega), e_II' (by omega), e_II' (by omega), e_II' (by omega), e_II]
    · rw [e_II' (by omega), e_II' (by omega), e_II' (by omega), e_II]; rfl
    · rw [e_II' (by omega), e_II' (by omega), e_II]
    · rw [e_II' (by omega), e_II]
    · rw [e_II]; rfl
    · rw [q_F_I F0 50 i (fun r => by unfold u_sq at r; omega)]; exact (h3 i (by omega)).1
  obtain ⟨m1, a1, a2, a3⟩ := t_183 (sp := sp) (ph := ph) (d := d) hP
  refine ⟨m1, ?_, q_F_trans F0 (q_F_mono a2 (fun a k r => by unfold u_rf at r; unfold u_sq; omega)), a3, ?_⟩
  · rw [y_C_191, y_E_191_0, a1, e_bV]
  · rw [q_F_I a2 49 1 (fun r => by unfold u_rf at r; omega), e_II' (by omega), e_II' (by omega), e_II' (by omega), e_II' (by omega), e_II' (by omega), e_II]
/-- as q_F, but rows were made and the boots may have changed places -/
def u_FA (k s b x : Nat) (S : Nat → Nat → Prop) (m m' : y_m) : Prop := m'.1 = m.1 + k ∧ m'.2.1 = m.2.1 + s ∧ y_mc m' = b ∧ y_mx m' = x ∧ (∀ a k, ¬ S a k → y_mI m' a k = y_mI m a k) ∧ ∀ a k, ¬ S a k → y_mJ m' a k = y_mJ m a k
theorem u_FA_F {k s b x : Nat} {S : Nat → Nat → Prop} {m m1 m2 : y_m} (h : u_FA k s b x S m m1) (g : q_F S m1 m2) : u_FA k s b x S m m2 :=
  ⟨g.1.trans h.1, g.2.1.trans h.2.1, g.2.2.1.trans h.2.2.1, g.2.2.2.1.trans h.2.2.2.1, fun a k q => (g.2.2.2.2.1 a k q).trans (h.2.2.2.2.1 a k q), fun a k q => (g.2.2.2.2.2 a k q).trans (h.2.2.2.2.2 a k q)⟩
theorem u_F_FA {k s b x : Nat} {S : Nat → Nat → Prop} {m m1 m2 : y_m} (g : q_F S m m1) (h : u_FA k s b x S m1 m2) : u_FA k s b x S m m2 :=
  ⟨by rw [h.1, g.1], by rw [h.2.1, g.2.1], h.2.2.1, h.2.2.2.1, fun a k q => (h.2.2.2.2.1 a k q).trans (g.2.2.2.2.1 a k q), fun a k q => (h.2.2.2.2.2 a k q).trans (g.2.2.2.2.2 a k q)⟩
theorem u_F_to {S : Nat → Nat → Prop} {m m1 : y_m} (h : q_F S m m1) : u_FA 0 0 (y_mc m) (y_mx m) S m m1 := ⟨h.1, h.2.1, h.2.2.1, h.2.2.2.1, h.2.2.2.2.1, h.2.2.2.2.2⟩
theorem u_FA_mono {k s b x : Nat} {S T : Nat → Nat → Prop} {m m1 : y_m} (h : u_FA k s b x S m m1) (g : ∀ a k, S a k → T a k) : u_FA k s b x T m m1 :=
  ⟨h.1, h.2.1, h.2.2.1, h.2.2.2.1, fun a k q => h.2.2.2.2.1 a k (fun z => q (g a k z)), fun a k q => h.2.2.2.2.2 a k (fun z => q (g a k z))⟩
theorem u_nm_I {x a k : Nat} (h : a ≠ 300000) : y_mI (y_nm m x) a k = y_mI m a k := by
  show z_row (y_mI m) 300000 (fun _ => 0) a k = _
  unfold z_row
  rw [if_neg h]
theorem l_177 : ∀ (k j : Nat) (m : y_m), j + k = 7 → ∃ m', y_R sp ph d 177 42 [some (y_bo 11 0 49), some (y_bo 107 7 300000), some (y_bi (j : Int))] [] m = y_rV m' ∧ q_F (fun a i => a = 51 ∧ i < 7) m m' ∧ (∀ i, j ≤ i → i < 7 → y_mI m' 51 i = y_mI m 300000 i) ∧ ∀ i, i < j → y_mI m' 51 i = y_mI m 51 i := by
  intro k
  induction k with
  | zero =>
    intro j m h
    refine ⟨m, ?_, q_F_refl, fun i h1 h2 => by omega, fun i _ => rfl⟩
    rw [y_E_177_42, if_pos (by rw [z_w_id (by omega) (by omega)]; omega), y_E_177_63]
  | succ k ih =>
    intro j m h
    obtain ⟨m2, a1, a2, a3, a4⟩ := ih (j + 1) (y_sI m 51 j (y_mI m 300000 j)) (by omega)
    refine ⟨m2, ?_, q_F_trans (q_F_sI ⟨rfl, by omega⟩) a2, fun i h1 h2 => ?_, fun i hi => ?_⟩
    · rw [y_E_177_42, if_neg (by rw [z_w_id (by omega) (by omega)]; omega), e_g ⟨by omega, by omega⟩, e_g ⟨by omega, by omega⟩, Int.toNat_natCast, show (j : Int) + 1 = ((j + 1 : Nat) : Int) by omega]
      exact a1
    · by_cases c : i = j
      · subst c; rw [a4 i (by omega), e_II]
      · rw [a3 i (by omega) h2, e_II' (by omega)]
    · rw [a4 i (by omega), e_II' (by omega)]
def u_n7 (a k : Nat) : Prop := a = 300000 ∨ (a = 51 ∧ k < 7)
theorem t_177 : ∃ m', y_V sp true (d + 1) 177 [y_bo 11 0 49] m = y_rV m' ∧ u_FA 1 7 (y_mc m) (y_mx m) u_n7 m m' ∧ u_RB m' u_g0 := by
  obtain ⟨m2, a1, a2, a3, -⟩ := l_177 (sp := sp) (ph := true) (d := d) 7 0 (y_sI (y_sI (y_sI (y_sI (y_sI (y_sI (y_sI (y_nm m 7) 300000 0 6) 300000 1 6) 300000 2 30) 300000 3 20) 300000 4 0) 300000 5 9999) 300000 6 0) (by omega)
  have F1 : q_F u_n7 (y_nm m 7) (y_sI (y_sI (y_sI (y_sI (y_sI (y_sI (y_sI (y_nm m 7) 300000 0 6) 300000 1 6) 300000 2 30) 300000 3 20) 300000 4 0) 300000 5 9999) 300000 6 0) := q_F_trans (q_F_sI (Or.inl rfl)) (q_F_trans (q_F_sI (Or.inl rfl)) (q_F_trans (q_F_sI (Or.inl rfl)) (q_F_trans (q_F_sI (Or.inl rfl)) (q_F_trans (q_F_sI (Or.inl rfl)) (q_F_trans (q_F_sI (Or.inl rfl)) (q_F_sI (Or.inl rfl)))))))
  have F0 : u_FA 1 7 (y_mc m) (y_mx m) u_n7 m (y_nm m 7) := ⟨rfl, rfl, rfl, rfl, fun a k r => u_nm_I (fun h => r (Or.inl h)), fun a k r => rfl⟩
  refine ⟨m2, ?_, u_FA_F (u_FA_F F0 F1) (q_F_mono a2 (fun a k r => Or.inr r)), ?_⟩
  · rw [y_C_177, y_E_177_0]
    rw [show (true && true && true) = true from rfl, e_bb, e_g ⟨by omega, by omega⟩]
    exact a1
  · refine ⟨by unfold u_gr; decide, ?_, ?_, ?_, ?_, ?_, ?_, ?_⟩
    · rw [a3 0 (by omega) (by omega), e_II' (by omega), e_II' (by omega), e_II' (by omega), e_II' (by omega), e_II' (by omega), e_II' (by omega), e_II]; rfl
    · rw [a3 1 (by omega) (by omega), e_II' (by omega), e_II' (by omega), e_II' (by omega), e_II' (by omega), e_II' (by omega), e_II]; rfl
    · rw [a3 2 (by omega) (by omega), e_II' (by omega), e_II' (by omega), e_II' (by omega), e_II' (by omega), e_II]; rfl
    · rw [a3 3 (by omega) (by omega), e_II' (by omega), e_II' (by omega), e_II' (by omega), e_II]; rfl
    · rw [a3 4 (by omega) (by omega), e_II' (by omega), e_II' (by omega), e_II]; rfl
    · rw [a3 5 (by omega) (by omega), e_II' (by omega), e_II]; rfl
    · rw [a3 6 (by omega) (by omega), e_II]; rfl
end Boot
