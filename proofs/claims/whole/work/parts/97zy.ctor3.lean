/-! ===== the reference's world stands ===== -/
section Ctor3
variable {s : Nat} {R : Nat → Nat → Option Nat} {I J : Nat → Nat → Int} {m3 : y_m} {M3 : z_M} {sp : Nat → Nat}
theorem k_up_ne {α : Type} {f : Nat → Nat → α} {a b c k : Nat} {x : α} (h : a ≠ c) : z_up f c b x a k = f a k := if_neg (fun q => h q.1)
theorem k_row_ne {α : Type} {f : Nat → Nat → α} {a c k : Nat} {g : Nat → α} (h : a ≠ c) : z_row f c g a k = f a k := if_neg h
theorem k_RB_lt {a : Nat} (h : a < 49) (k : Nat) : k_RB R a k = R a k := by
  unfold k_RB
  simp (disch := omega) only [k_up_ne, k_row_ne]
theorem k_JB_lt {a : Nat} (h : a < 49) (k : Nat) : k_JB J a k = J a k := by
  unfold k_JB
  simp (disch := omega) only [k_row_ne]
theorem k_I7_lt {a : Nat} (h : a < 49) (k : Nat) : k_I7 I a k = I a k := by
  unfold k_I7 k_IB
  simp (disch := omega) only [k_up_ne, k_row_ne, if_neg]
def k_MN' (M : z_M) : z_M := k_MN (z_s M) (z_R M) (z_I M) (z_J M)
def k_M8 (M : z_M) : z_M := k_MC (z_s M) (z_R M) (z_I M) (z_J M)
def k_m8 (m : y_m) (M : z_M) : y_m := (105, z_s (k_M8 M), y_mc m, y_mx m, z_I (k_M8 M), z_J (k_M8 M))
theorem k_dn_le {nb nb' t n a : Nat} (h : k_dn nb t n a) (hb : nb ≤ nb') : k_dn nb' t n a := ⟨Nat.lt_of_lt_of_le h.1 hb, h.2⟩
theorem k_ra8 (t k a : Nat) : y_ra (k_m8 m3 M3) t k a = y_ra m3 t k a := by
  unfold y_ra
  split
  · split <;> rfl
  · rfl
set_option maxRecDepth 100000 in
theorem k_RL8 (h : y_RL (k_dn 49) 49 m3 M3) : y_RL (k_dn 105) 105 (k_m8 m3 M3) (k_M8 M3) := by
  obtain ⟨h1, h2, h3, h4, h5, h6, h7⟩ := h
  have eR : z_R (k_M8 M3) = k_RB (z_R M3) := (k_cp_n 7 0 (k_M7 (z_s M3) (z_R M3) (z_I M3) (z_J M3))).2.2.1
  have en : z_n (k_M8 M3) = 105 := (k_cp_n 7 0 (k_M7 (z_s M3) (z_R M3) (z_I M3) (z_J M3))).1
  refine ⟨en, rfl, rfl, rfl, Nat.le_refl _, fun t a k ht hd hf => ?_, fun t n a x ht hd hx => ?_⟩
  · rw [eR, k_ra8]
    by_cases c : a < 49
    · have g := h6 t a k ht ⟨c, hd.2⟩ hf
      exact ⟨by rw [k_RB_lt c]; exact g.1, k_dn_le g.2 (by decide)⟩
    · have key : ∀ a, a < 105 → ¬ a < 49 → (z_KL.getD a (98, 0)).1 ≤ 49 → a = 49 := by decide +kernel
      have ea := key a hd.1 c (by rw [hd.2.1]; exact ht)
      subst ea
      have et : t = 11 := by
        have e1 : z_KL.getD 49 (98, 0) = (11, 0) := by decide +kernel
        have e2 := e1.symm.trans hd.2.1
        exact (congrArg Prod.fst e2).symm
      subst et
      have kf : ∀ k, k < 47 → z_FT 11 k = 0 → k ∈ [8, 9, 10, 11, 12, 18, 19, 20, 21, 22, 23, 24, 25, 26, 27, 28, 29, 30, 31, 32, 34, 35, 36, 37, 38, 39, 40, 41, 44] := by decide +kernel
      have kk := kf k (k_FT hf) hf
      simp only [List.mem_cons, List.not_mem_nil, or_false] at kk
      rcases kk with rfl | rfl | rfl | rfl | rfl | rfl | rfl | rfl | rfl | rfl | rfl | rfl | rfl | rfl | rfl | rfl | rfl | rfl | rfl | rfl | rfl | rfl | rfl | rfl | rfl | rfl | rfl | rfl | rfl
      · exact ⟨rfl, (show k_dn 105 100 400 50 from by unfold k_dn; decide +kernel)⟩
      · exact ⟨rfl, (show k_dn 105 100 7 51 from by unfold k_dn; decide +kernel)⟩
      · exact ⟨rfl, (show k_dn 105 100 7 52 from by unfold k_dn; decide +kernel)⟩
      · exact ⟨rfl, (show k_dn 105 100 12 53 from by unfold k_dn; decide +kernel)⟩
      · exact ⟨rfl, (show k_dn 105 100 12 54 from by unfold k_dn; decide +kernel)⟩
      · exact ⟨rfl, (show k_dn 105 102 6 55 from by unfold k_dn; decide +kernel)⟩
      · exact ⟨rfl, (show k_dn 105 102 4 62 from by unfold k_dn; decide +kernel)⟩
      · exact ⟨rfl, (show k_dn 105 102 3 67 from by unfold k_dn; decide +kernel)⟩
      · exact ⟨rfl, (show k_dn 105 101 6 71 from by unfold k_dn; decide +kernel)⟩
      · exact ⟨rfl, (show k_dn 105 101 6 72 from by unfold k_dn; decide +kernel)⟩
      · exact ⟨rfl, (show k_dn 105 100 6 73 from by unfold k_dn; decide +kernel)⟩
      · exact ⟨rfl, (show k_dn 105 100 6 74 from by unfold k_dn; decide +kernel)⟩
      · exact ⟨rfl, (show k_dn 105 100 6 75 from by unfold k_dn; decide +kernel)⟩
      · exact ⟨rfl, (show k_dn 105 102 6 76 from by unfold k_dn; decide +kernel)⟩
      · exact ⟨rfl, (show k_dn 105 102 6 83 from by unfold k_dn; decide +kernel)⟩
      · exact ⟨rfl, (show k_dn 105 100 476 90 from by unfold k_dn; decide +kernel)⟩
      · exact ⟨rfl, (show k_dn 105 100 476 91 from by unfold k_dn; decide +kernel)⟩
      · exact ⟨rfl, (show k_dn 105 100 6 92 from by unfold k_dn; decide +kernel)⟩
      · exact ⟨rfl, (show k_dn 105 101 228 93 from by unfold k_dn; decide +kernel)⟩
      · exact ⟨rfl, (show k_dn 105 100 12 94 from by unfold k_dn; decide +kernel)⟩
      · exact ⟨rfl, (show k_dn 105 101 98304 95 from by unfold k_dn; decide +kernel)⟩
      · exact ⟨rfl, (show k_dn 105 101 98304 96 from by unfold k_dn; decide +kernel)⟩
      · exact ⟨rfl, (show k_dn 105 100 12 97 from by unfold k_dn; decide +kernel)⟩
      · exact ⟨rfl, (show k_dn 105 100 12 98 from by unfold k_dn; decide +kernel)⟩
      · exact ⟨rfl, (show k_dn 105 101 196608 99 from by unfold k_dn; decide +kernel)⟩
      · exact ⟨rfl, (show k_dn 105 101 4096 100 from by unfold k_dn; decide +kernel)⟩
      · exact ⟨rfl, (show k_dn 105 100 12 101 from by unfold k_dn; decide +kernel)⟩
      · exact ⟨rfl, (show k_dn 105 100 12 102 from by unfold k_dn; decide +kernel)⟩
      · exact ⟨rfl, (show k_dn 105 100 4 103 from by unfold k_dn; decide +kernel)⟩
  · rw [eR]
    by_cases c : a < 49
    · have g := h7 t n a x ht ⟨c, hd.2⟩ hx
      exact ⟨by rw [k_RB_lt c]; exact g.1, k_dn_le g.2 (by decide)⟩
    · have key : ∀ a, a < 105 → ¬ a < 49 → ((z_KL.getD a (98, 0)).1 = 102 ∨ (z_KL.getD a (98, 0)).1 = 103) → a = 55 ∨ a = 62 ∨ a = 67 ∨ a = 76 ∨ a = 83 := by decide +kernel
      have hn : n = (z_KL.getD a (98, 0)).2 := by rw [hd.2.1]
      rcases key a hd.1 c (by rw [hd.2.1]; exact ht) with rfl | rfl | rfl | rfl | rfl
      · have en : z_KL.getD 55 (98, 0) = (102, 6) := by decide +kernel
        rw [en] at hn
        have xs : x = 0 ∨ x = 1 ∨ x = 2 ∨ x = 3 ∨ x = 4 ∨ x = 5 := by omega
        rcases xs with rfl | rfl | rfl | rfl | rfl | rfl
        · exact ⟨rfl, (show k_dn 105 100 2 56 from by unfold k_dn; decide +kernel)⟩
        · exact ⟨rfl, (show k_dn 105 100 2 57 from by unfold k_dn; decide +kernel)⟩
        · exact ⟨rfl, (show k_dn 105 100 2 58 from by unfold k_dn; decide +kernel)⟩
        · exact ⟨rfl, (show k_dn 105 100 2 59 from by unfold k_dn; decide +kernel)⟩
        · exact ⟨rfl, (show k_dn 105 100 2 60 from by unfold k_dn; decide +kernel)⟩
        · exact ⟨rfl, (show k_dn 105 100 2 61 from by unfold k_dn; decide +kernel)⟩
      · have en : z_KL.getD 62 (98, 0) = (102, 4) := by decide +kernel
        rw [en] at hn
        have xs : x = 0 ∨ x = 1 ∨ x = 2 ∨ x = 3 := by omega
        rcases xs with rfl | rfl | rfl | rfl
        · exact ⟨rfl, (show k_dn 105 100 13 63 from by unfold k_dn; decide +kernel)⟩
        · exact ⟨rfl, (show k_dn 105 100 13 64 from by unfold k_dn; decide +kernel)⟩
        · exact ⟨rfl, (show k_dn 105 100 13 65 from by unfold k_dn; decide +kernel)⟩
        · exact ⟨rfl, (show k_dn 105 100 13 66 from by unfold k_dn; decide +kernel)⟩
      · have en : z_KL.getD 67 (98, 0) = (102, 3) := by decide +kernel
        rw [en] at hn
        have xs : x = 0 ∨ x = 1 ∨ x = 2 := by omega
        rcases xs with rfl | rfl | rfl
        · exact ⟨rfl, (show k_dn 105 100 79 68 from by unfold k_dn; decide +kernel)⟩
        · exact ⟨rfl, (show k_dn 105 100 79 69 from by unfold k_dn; decide +kernel)⟩
        · exact ⟨rfl, (show k_dn 105 100 79 70 from by unfold k_dn; decide +kernel)⟩
      · have en : z_KL.getD 76 (98, 0) = (102, 6) := by decide +kernel
        rw [en] at hn
        have xs : x = 0 ∨ x = 1 ∨ x = 2 ∨ x = 3 ∨ x = 4 ∨ x = 5 := by omega
        rcases xs with rfl | rfl | rfl | rfl | rfl | rfl
        · exact ⟨rfl, (show k_dn 105 100 228 77 from by unfold k_dn; decide +kernel)⟩
        · exact ⟨rfl, (show k_dn 105 100 228 78 from by unfold k_dn; decide +kernel)⟩
        · exact ⟨rfl, (show k_dn 105 100 228 79 from by unfold k_dn; decide +kernel)⟩
        · exact ⟨rfl, (show k_dn 105 100 228 80 from by unfold k_dn; decide +kernel)⟩
        · exact ⟨rfl, (show k_dn 105 100 228 81 from by unfold k_dn; decide +kernel)⟩
        · exact ⟨rfl, (show k_dn 105 100 228 82 from by unfold k_dn; decide +kernel)⟩
      · have en : z_KL.getD 83 (98, 0) = (102, 6) := by decide +kernel
        rw [en] at hn
        have xs : x = 0 ∨ x = 1 ∨ x = 2 ∨ x = 3 ∨ x = 4 ∨ x = 5 := by omega
        rcases xs with rfl | rfl | rfl | rfl | rfl | rfl
        · exact ⟨rfl, (show k_dn 105 100 228 84 from by unfold k_dn; decide +kernel)⟩
        · exact ⟨rfl, (show k_dn 105 100 228 85 from by unfold k_dn; decide +kernel)⟩
        · exact ⟨rfl, (show k_dn 105 100 228 86 from by unfold k_dn; decide +kernel)⟩
        · exact ⟨rfl, (show k_dn 105 100 228 87 from by unfold k_dn; decide +kernel)⟩
        · exact ⟨rfl, (show k_dn 105 100 228 88 from by unfold k_dn; decide +kernel)⟩
        · exact ⟨rfl, (show k_dn 105 100 228 89 from by unfold k_dn; decide +kernel)⟩
theorem k_I8_lt {a : Nat} (h : a < 49) (k : Nat) : z_I (k_M8 M3) a k = z_I M3 a k := by
  have g := (k_cp_n 7 0 (k_M7 (z_s M3) (z_R M3) (z_I M3) (z_J M3))).2.2.2.2.1 a k (by omega)
  exact g.trans (k_I7_lt h k)
theorem k_J8_lt {a : Nat} (h : a < 49) (k : Nat) : z_J (k_M8 M3) a k = z_J M3 a k := by
  have g := congrFun (congrFun (k_cp_n 7 0 (k_M7 (z_s M3) (z_R M3) (z_I M3) (z_J M3))).2.2.2.1 a) k
  exact g.trans (k_JB_lt h k)
def k_v7 (j : Nat) : Int := [6, 6, 30, 20, 0, 9999, 0].getD j 0
set_option maxRecDepth 100000 in
theorem k_I8_51 {j : Nat} (h : j < 7) : z_I (k_M8 M3) 51 j = k_v7 j := by
  have g := (k_cp_n 7 0 (k_M7 (z_s M3) (z_R M3) (z_I M3) (z_J M3))).2.2.2.2.2.2 j (by omega) (by omega)
  refine g.trans ?_
  have js : j = 0 ∨ j = 1 ∨ j = 2 ∨ j = 3 ∨ j = 4 ∨ j = 5 ∨ j = 6 := by omega
  rcases js with rfl | rfl | rfl | rfl | rfl | rfl | rfl <;> rfl
set_option maxRecDepth 100000 in
theorem k_I8_49 : z_I (k_M8 M3) 49 1 = 0 ∧ z_I (k_M8 M3) 49 3 = -1 := by
  have g := fun k => (k_cp_n 7 0 (k_M7 (z_s M3) (z_R M3) (z_I M3) (z_J M3))).2.2.2.2.1 49 k (by decide)
  exact ⟨(g 1).trans rfl, (g 3).trans rfl⟩
theorem k_s7 : z_s (k_M7 s R I J) = s + 47 + 400 + 7 + 7 + 12 + 12 + 6 + 12 + 4 + 52 + 3 + 237 + 6 + 6 + 6 + 6 + 6 + 6 + 1368 + 6 + 1368 + 476 + 476 + 6 + 228 + 12 + 98304 + 98304 + 12 + 12 + 196608 + 4096 + 12 + 12 + 4 + 7 := by simp only [k_M7, z_s]
theorem k_s9 (s : Nat) : s + 47 + 400 + 7 + 7 + 12 + 12 + 6 + 12 + 4 + 52 + 3 + 237 + 6 + 6 + 6 + 6 + 6 + 6 + 1368 + 6 + 1368 + 476 + 476 + 6 + 228 + 12 + 98304 + 98304 + 12 + 12 + 196608 + 4096 + 12 + 12 + 4 + 7 = s + 402146 := by simp only [Nat.add_assoc, Nat.reduceAdd]
theorem k_s8 : z_s (k_M8 M3) = z_s M3 + 402146 := by
  have g : z_s (k_M8 M3) = z_s (k_M7 (z_s M3) (z_R M3) (z_I M3) (z_J M3)) := (k_cp_n 7 0 (k_M7 (z_s M3) (z_R M3) (z_I M3) (z_J M3))).2.1
  exact g.trans (k_s7.trans (k_s9 _))
/-- the reference stands -/
theorem k_176 (h : y_RL (k_dn 49) 49 m3 M3) : ∃ m5 M5, z_Run sp z_mt 31 false 176 [z_r (some 49)] (k_MN (z_s M3) (z_R M3) (z_I M3) (z_J M3)) false (.inl none) M5 ∧ y_RL (k_dn 105) 105 m5 M5 ∧ q_F (fun a j => a = 52 ∨ q_wr a ∨ (a = 49 ∧ 13 ≤ j ∧ j ≤ 16)) (k_m8 m3 M3) m5 ∧ (∀ j, j < 7 → y_mI m5 52 j = k_v7 j) ∧ y_mI m5 49 13 = 0 ∧ y_mI m5 49 14 = 0 ∧ y_mI m5 49 15 = 0 ∧ y_mI m5 49 16 = 0 ∧ ∀ k, 1 ≤ k → k < 6 → q_rt m5 k 30 (30 * 30 + k * k * 20 * 20) := by
  obtain ⟨m5, a1, a2, a3, a4, a5, a6, a7, a8⟩ := t_194 (sp := sp) (ph := false) (d := 26) (A := 30) (B := 20) (m := k_m8 m3 M3) (by decide) (by decide) (by decide) (k_I8_51 (j := 2) (by decide)) (k_I8_51 (j := 3) (by decide))
  obtain ⟨M5, b1, b2⟩ := y_V_ok (dn := k_dn 105) (nb := 105) (k_DN (by decide)) 30 194 [y_bo 11 0 49] (k_m8 m3 M3) (k_M8 M3) (.inl none) m5 a1 (fun v hv => by
    simp only [List.mem_cons, List.not_mem_nil, or_false] at hv
    subst hv
    exact y_okR (by unfold k_dn; decide +kernel) (by decide)) (k_RL8 h)
  refine ⟨m5, M5, ?_, b2, a2, fun j hj => (a3 j hj).trans (k_I8_51 hj), a4, a5, a6, a7, a8⟩
  have hr := k_ru_ok (sp := sp) (rz := z_md_176.1) (hd := z_md_176.2.1) (C := z_Run sp z_mt 30) (X := fun ph' o' M' => ph' = false ∧ o' = .inl none ∧ M' = M5) (fun j As M M1 h => k_cl_ok 30 j As M M1 h) 40 0 _ _ _ _ _ _ _ _ (k_B_eq (s := z_s M3) (R := z_R M3) (I := z_I M3) (J := z_J M3)) (by
    refine ⟨[z_r (some 49)], [], .inl none, k_M8 M3, false, false, rfl, rfl, Or.inr ⟨by decide, 49, [], rfl, ?_⟩, Or.inl rfl, k_177, by decide, ?_⟩
    · rfl
    · refine ⟨49, rfl, ?_⟩
      refine ⟨[z_r (some 49)], [], .inl none, M5, false, false, rfl, rfl, Or.inr ⟨by decide, 49, [], rfl, ?_⟩, Or.inl rfl, b1, by decide, ?_⟩
      · exact k_kd (k_cp_n 7 0 (k_M7 (z_s M3) (z_R M3) (z_I M3) (z_J M3))).1 (by decide)
      · exact ⟨rfl, rfl, rfl, rfl⟩)
  obtain ⟨n, hn⟩ := hr
  exact Or.inr ⟨by decide, by decide, n, hn⟩
end Ctor3
