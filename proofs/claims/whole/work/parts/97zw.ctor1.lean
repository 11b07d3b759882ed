/-! ===== the class's world is made ===== -/
def k_M0 : z_M := (1, 13, z_row (fun _ _ => none) 0 (fun _ => none), z_row (fun _ _ => 0) 0 (fun _ => 0), fun _ _ => 0)
def k_A : Option (List z_In × Nat × k_St) := k_ru z_md_135 (k_cl 30) 40 0 (z_ent 2 [z_r (some 0)]) [] k_M0
def k_MA : z_M := match k_A with
  | some q => q.2.2.2.2
  | none => z_M0
set_option maxRecDepth 100000 in
set_option maxHeartbeats 4000000 in
theorem k_A_eq : k_A = some ([(.invokevirtual 92, 180, 49, 2, 228), (.return_, 183, 0, 0, 0)], 184, [some (z_r (some 0)), none], [z_i 20, z_i 30, z_r (some 3)], k_MA) := rfl
/-- typed references that are good, when nb cells are made -/
def k_dn (nb t n a : Nat) : Prop := a < nb ∧ z_KL.getD a (98, 0) = (t, n) ∧ (t ≤ 49 → n = 0)
theorem k_DN {nb : Nat} (h : nb ≤ 106) : y_DN (k_dn nb) nb := by
  refine ⟨fun t n a q => ⟨q.1, Nat.lt_of_lt_of_le q.1 h, q.2.1, q.2.2⟩, fun n a q => ?_⟩
  have key : ∀ a, a < 106 → (z_KL.getD a (98, 0)).1 = 10 → a = 0 := by decide +kernel
  exact key a (Nat.lt_of_lt_of_le q.1 h) (by rw [q.2.1])
theorem k_FT {t k : Nat} (h : z_FT t k = 0) : k < 47 := by
  by_cases c : k < 47
  · exact c
  · exfalso
    have hl : ∀ l ∈ z_FTL, l.length ≤ 47 := by decide +kernel
    unfold z_FT at h
    by_cases ct : t < z_FTL.length
    · have e : z_FTL.getD t [] ∈ z_FTL := by
        rw [List.getD_eq_getElem?_getD, List.getElem?_eq_getElem ct]; exact List.getElem_mem _
      have := hl _ e
      rw [List.getD_eq_getElem?_getD, List.getElem?_eq_none (by omega)] at h
      exact absurd h (by decide)
    · rw [show z_FTL.getD t [] = [] by rw [List.getD_eq_getElem?_getD, List.getElem?_eq_none (by omega)]; rfl] at h
      exact absurd h (by simp)
/-- the cells' references are as the tables have them -/
def k_ck (nb : Nat) (m : y_m) (R : Nat → Nat → Option Nat) : Bool := (List.range nb).all fun a =>
  if (z_KL.getD a (98, 0)).1 ≤ 49 then (List.range 47).all (fun k => if z_FT (z_KL.getD a (98, 0)).1 k = 0 then
      decide (R a k = some (y_ra m (z_KL.getD a (98, 0)).1 k a)) && decide (y_ra m (z_KL.getD a (98, 0)).1 k a < nb) && decide (z_KL.getD (y_ra m (z_KL.getD a (98, 0)).1 k a) (98, 0) = y_rk (z_KL.getD a (98, 0)).1 k) && decide ((y_rk (z_KL.getD a (98, 0)).1 k).1 ≤ 49 → (y_rk (z_KL.getD a (98, 0)).1 k).2 = 0) else true)
  else if (z_KL.getD a (98, 0)).1 = 102 ∨ (z_KL.getD a (98, 0)).1 = 103 then (List.range (z_KL.getD a (98, 0)).2).all (fun x =>
      decide (R a x = some ((y_rx a).2.2.1 + (y_rx a).2.2.2 * x)) && decide ((y_rx a).2.2.1 + (y_rx a).2.2.2 * x < nb) && decide (z_KL.getD ((y_rx a).2.2.1 + (y_rx a).2.2.2 * x) (98, 0) = ((y_rx a).1, (y_rx a).2.1)) && decide ((y_rx a).1 ≤ 49 → (y_rx a).2.1 = 0))
  else true
theorem k_ck_ok {nb : Nat} {m : y_m} {M : z_M} (h : k_ck nb m (z_R M) = true) (h1 : z_n M = m.1) (h2 : z_s M = m.2.1) (h3 : z_I M = y_mI m) (h4 : z_J M = y_mJ m) (h5 : nb ≤ m.1) : y_RL (k_dn nb) nb m M := by
  unfold k_ck at h
  rw [List.all_eq_true] at h
  refine ⟨h1, h2, h3, h4, h5, fun t a k ht hd hf => ?_, fun t n a x ht hd hx => ?_⟩
  · have g := h a (List.mem_range.mpr hd.1)
    rw [hd.2.1] at g
    rw [if_pos (show (t, 0).1 ≤ 49 from ht), List.all_eq_true] at g
    have g2 := g k (List.mem_range.mpr (k_FT hf))
    rw [if_pos hf] at g2
    simp only [Bool.and_eq_true, decide_eq_true_iff] at g2
    exact ⟨g2.1.1.1, g2.1.1.2, by rw [g2.1.2], g2.2⟩
  · have g := h a (List.mem_range.mpr hd.1)
    rw [hd.2.1] at g
    rw [if_neg (show ¬ (t, n).1 ≤ 49 by show ¬ t ≤ 49; omega), if_pos (show (t, n).1 = 102 ∨ (t, n).1 = 103 from ht), List.all_eq_true] at g
    have g2 := g x (List.mem_range.mpr hx)
    simp only [Bool.and_eq_true, decide_eq_true_iff] at g2
    exact ⟨g2.1.1.1, g2.1.1.2, g2.1.2, g2.2⟩
def k_mA : y_m := (z_n k_MA, z_s k_MA, 29, 30, z_I k_MA, z_J k_MA)
theorem k_RLA : y_RL (k_dn 49) 49 k_mA k_MA := k_ck_ok (by decide +kernel) rfl rfl rfl rfl (by decide +kernel)
/-- the class stands -/
theorem k_135 {sp : Nat → Nat} : ∃ m3 M3, z_Run sp z_mt 31 false 135 [z_r (some 0)] k_M0 false (.inl none) M3 ∧ y_RL (k_dn 49) 49 m3 M3 ∧ q_F (fun a j => a = 4 ∨ a = 5 ∨ (a = 3 ∧ j = 2)) k_mA m3 ∧ y_mI m3 3 2 = 20 ∧ ∀ g, g < 6 → q_ms m3 g 30 (30 * 30 + g * g * 20 * 20) := by
  obtain ⟨m3, a1, a2, a3, a4⟩ := s_49 (sp := sp) (ph := false) (d := 27) (A := 30) (B := 20) (m := k_mA) (by decide) (by decide) (by decide)
  obtain ⟨M3, b1, b2⟩ := y_V_ok (dn := k_dn 49) (nb := 49) (k_DN (by decide)) 30 49 [y_bo 4 0 3, y_bi 30, y_bi 20] k_mA k_MA (.inl none) m3 a1 (fun v hv => by
    simp only [List.mem_cons, List.not_mem_nil, or_false] at hv
    rcases hv with rfl | rfl | rfl
    · exact y_okR (by unfold k_dn; decide +kernel) (by decide)
    · exact y_okI
    · exact y_okI) k_RLA
  refine ⟨m3, M3, ?_, b2, a2, a3, a4⟩
  have hr := k_ru_ok (sp := sp) (rz := z_md_135.1) (hd := z_md_135.2.1) (C := z_Run sp z_mt 30) (X := fun ph' o' M' => ph' = false ∧ o' = .inl none ∧ M' = M3) (fun j As M M1 h => k_cl_ok 30 j As M M1 h) 40 0 _ _ _ _ _ _ _ _ k_A_eq (by
    refine ⟨[z_i 20, z_i 30, z_r (some 3)], [], .inl none, M3, false, false, rfl, rfl, Or.inr ⟨by decide, 3, [z_i 30, z_i 20], rfl, ?_⟩, Or.inl rfl, b1, by decide, ?_⟩
    · decide +kernel
    · exact ⟨rfl, rfl, rfl, rfl⟩)
  obtain ⟨n, hn⟩ := hr
  exact Or.inr ⟨by decide, by decide, n, hn⟩
