/-! ===== the whole run, from the table of the scores ===== -/
section PureOf
variable {sp : Nat → Nat}
theorem k_mA_ints : y_mI k_mA 29 0 = 6 ∧ y_mI k_mA 29 1 = 6 ∧ y_mI k_mA 29 2 = 30 ∧ y_mI k_mA 29 3 = 20 ∧ y_mI k_mA 29 4 = 0 ∧ y_mI k_mA 29 5 = 0 ∧ y_mI k_mA 29 6 = 9999 ∧ y_mI k_mA 23 1 = 0 ∧ y_mI k_mA 6 1 = -1 ∧ y_mI k_mA 8 6 = -1 ∧ y_mI k_mA 8 4 = 0 ∧ y_mI k_mA 1 1 = 0 ∧ y_mI k_mA 0 12 = -1 ∧ y_mI k_mA 25 1 = 0 ∧ y_mI k_mA 25 2 = 0 ∧ y_mI k_mA 22 3 = 0 ∧ y_mI k_mA 0 11 = 0 := by decide +kernel
theorem k_mA_n : k_mA.1 = 49 ∧ k_mA.2.1 ≤ 900000 ∧ y_mc k_mA = 29 ∧ y_mx k_mA = 30 := by decide +kernel
def x_M6 (M : z_M) : z_M := (106, z_s M + 1, z_R M, z_I M, z_row (z_J M) 105 (fun _ => 0))
def x_m6 (m : y_m) : y_m := (106, m.2.1 + 1, y_mc m, y_mx m, y_mI m, z_row (y_mJ m) 105 (fun _ => 0))
theorem x_ra6 {m : y_m} (t k a : Nat) : y_ra (x_m6 m) t k a = y_ra m t k a := by
  unfold y_ra
  split
  · split <;> rfl
  · rfl
theorem x_RL6 {m : y_m} {M : z_M} (h : y_RL (k_dn 105) 105 m M) : y_RL (k_dn 106) 106 (x_m6 m) (x_M6 M) := by
  obtain ⟨h1, h2, h3, h4, h5, h6, h7⟩ := h
  have e5 : z_KL.getD 105 (98, 0) = (101, 1) := by decide +kernel
  have hlt : ∀ t n a, k_dn 106 t n a → t ≠ 101 → k_dn 105 t n a := fun t n a hd ht => by
    refine ⟨?_, hd.2⟩
    have h1 := hd.1
    rcases Nat.lt_or_ge a 105 with c | c
    · exact c
    · exfalso
      have ea : a = 105 := by omega
      subst ea
      have e6 := e5.symm.trans hd.2.1
      exact ht (congrArg Prod.fst e6).symm
  refine ⟨rfl, congrArg (· + 1) h2, h3, congrArg (fun z => z_row z 105 (fun _ => 0)) h4, Nat.le_refl _, fun t a k ht hd hf => ?_, fun t n a x ht hd hx => ?_⟩
  · have g := h6 t a k ht (hlt _ _ _ hd (by omega)) hf
    rw [x_ra6]
    exact ⟨g.1, k_dn_le g.2 (by decide)⟩
  · have g := h7 t n a x ht (hlt _ _ _ hd (by omega)) hx
    exact ⟨g.1, k_dn_le g.2 (by decide)⟩
theorem z_pure_of (okv : v_Ok) : z_Pure := by
  intro sp h2
  obtain ⟨m3, M3, a1, a2, a3, a4, a5⟩ := k_135 (sp := sp)
  obtain ⟨c1, c2, c3, c4⟩ := k_mA_n
  have n3 : z_n M3 = 49 := a2.1.trans (a3.1.trans c1)
  obtain ⟨m5, M5, b1, b2, b3, b4, b5, b6, b7, b8, b9⟩ := k_176 (sp := sp) a2
  have n5 : z_n M5 = 105 := b2.1.trans b3.1
  have nS : ∀ a j, a < 49 → ¬ (a = 52 ∨ q_wr a ∨ (a = 49 ∧ 13 ≤ j ∧ j ≤ 16)) := fun a j ha q => by
    unfold q_wr at q; omega
  have eI : ∀ a, a < 49 → ∀ j, y_mI m5 a j = y_mI m3 a j := fun a ha j => by
    rw [q_F_I b3 a j (nS a j ha)]
    exact (k_I8_lt ha j).trans (congrFun (congrFun a2.2.2.1 a) j)
  have eJ : ∀ a, a < 49 → ∀ j, y_mJ m5 a j = y_mJ m3 a j := fun a ha j => by
    rw [q_F_J b3 a j (nS a j ha)]
    exact (k_J8_lt ha j).trans (congrFun (congrFun a2.2.2.2.1 a) j)
  have eA : ∀ a j, a < 49 → ¬ (a = 4 ∨ a = 5 ∨ (a = 3 ∧ j = 2)) → y_mI m5 a j = y_mI k_mA a j := fun a j ha hq => (eI a ha j).trans (q_F_I a3 a j hq)
  obtain ⟨i0, i1, i2, i3, i4, i5, i6, i7, i8, i9, i10, i11, i12, i13, i14, i15, i16⟩ := k_mA_ints
  have hms : ∀ g, g < 6 → q_ms m5 g 30 (30 * 30 + g * g * 20 * 20) := fun g hg => by
    have h := a5 g hg
    unfold q_ms at h ⊢
    rw [eJ 4 (by decide), eJ 5 (by decide)]
    exact h
  have i49 := k_I8_49 (M3 := M3)
  have hst : x_st (x_m6 m5) x_s0 := x_st0 (m := x_m6 m5) okv (b3.2.2.1.trans (a3.2.2.1.trans c3)) (b3.2.2.2.1.trans (a3.2.2.2.1.trans c4))
    ⟨(eA 29 0 (by decide) (by decide)).trans i0, (eA 29 1 (by decide) (by decide)).trans i1, (eA 29 2 (by decide) (by decide)).trans i2, (eA 29 3 (by decide) (by decide)).trans i3, (eA 29 4 (by decide) (by decide)).trans i4, (eA 29 5 (by decide) (by decide)).trans i5, (eA 29 6 (by decide) (by decide)).trans i6⟩
    ((eA 23 1 (by decide) (by decide)).trans i7) ((eA 6 1 (by decide) (by decide)).trans i8) ((eA 8 6 (by decide) (by decide)).trans i9) ((eA 8 4 (by decide) (by decide)).trans i10) ((eA 1 1 (by decide) (by decide)).trans i11) ((eA 0 12 (by decide) (by decide)).trans i12) ((eA 25 1 (by decide) (by decide)).trans i13) ((eA 25 2 (by decide) (by decide)).trans i14) ((eA 22 3 (by decide) (by decide)).trans i15) ((eA 0 11 (by decide) (by decide)).trans i16)
    ((eI 3 (by decide) 2).trans a4) hms b4 b9
    ((q_F_I b3 49 1 (by unfold q_wr; omega)).trans i49.1) ((q_F_I b3 49 3 (by unfold q_wr; omega)).trans i49.2) b5 b6 b7 b8
  obtain ⟨mF, f1, f2, f3⟩ := x_loop (sp := sp) (d := 0) okv h2 513 0 (x_m6 m5) x_s0 hst (by omega) (by omega)
  obtain ⟨n, hn⟩ := y_lim_inv (f := fun n => y_Rf sp true (z_mt 317) (y_V sp true 31) n 23 [some (y_bo 105 0 600000), some (y_bo 10 0 0), some (y_bo 11 0 49), some (y_bo 101 1 105), some (y_bi ((0 : Nat) : Int)), none, none, none] [] (x_m6 m5)) (r := (.inl (some (z_i 1)), mF)) f1
  have hG : y_G (k_dn 106) 106 true [some (y_bo 105 0 600000), some (y_bo 10 0 0), some (y_bo 11 0 49), some (y_bo 101 1 105), some (y_bi ((0 : Nat) : Int)), none, none, none] [] (x_m6 m5) (true, 0) (x_M6 M5) := by
    refine ⟨fun v hv => ?_, fun v hv => absurd hv List.not_mem_nil, x_RL6 b2, rfl, fun v n hv hn => ?_⟩
    · simp only [List.mem_cons, List.not_mem_nil, or_false, Option.some.injEq, reduceCtorEq] at hv
      rcases hv with rfl | rfl | rfl | rfl | rfl
      · exact Or.inr (Or.inr (Or.inl rfl))
      · exact Or.inl ⟨by decide, by unfold k_dn; decide +kernel⟩
      · exact Or.inl ⟨by decide, by unfold k_dn; decide +kernel⟩
      · exact Or.inl ⟨by decide, by unfold k_dn; decide +kernel⟩
      · trivial
    · exfalso
      simp only [List.mem_cons, List.not_mem_nil, or_false, Option.some.injEq, reduceCtorEq] at hv
      rcases hv with rfl | rfl | rfl | rfl | rfl <;> cases hn
  have hrun := y_Rf_ok (CR := z_Run sp z_mt 31) (XR := fun ph' o' M' => ph' = true ∧ o' = .inl (some (z_i 1)) ∧ y_RL (k_dn 106) 106 mF M') (r := (.inl (some (z_i 1)), mF)) (fun j As m M o m1 h hA hr => y_V_ok (k_DN (by decide)) 31 j As m M o m1 h hA hr) (fun M hM => ⟨rfl, rfl, hM⟩) (k_DN (by decide)) n 23 _ _ _ (true, 0) (x_M6 M5) hn hG
  obtain ⟨ph1, o1, MF, ⟨rfl, rfl, hMF⟩, g⟩ := z_run_res n _ _ _ _ _ hrun
  have g2 := g (fun ph' o' M' => ph' = true ∧ o' = .inl (some (z_i 1)) ∧ M' = MF) ⟨rfl, rfl, rfl⟩
  have e1 : (x_m6 m5).1 = 106 := rfl
  have e2 : (x_m6 m5).2.1 = m5.2.1 + 1 := rfl
  have e3 : m5.2.1 = z_s (k_M8 M3) := b3.2.1
  have e4 := k_s8 (M3 := M3)
  have e5 : z_s M3 = k_mA.2.1 := a2.2.1.trans a3.2.1
  have e6 : z_n MF = mF.1 := hMF.1
  have e7 : z_s MF = mF.2.1 := hMF.2.1
  refine ⟨31, true, MF, by decide, by omega, by omega, Or.inr ⟨by decide, by decide, ?_⟩⟩
  exact x_317 (X := fun ph' o' M' => ph' = true ∧ o' = .inl (some (z_i 1)) ∧ M' = MF) a1 n3 b1 n5 ⟨n, z_run_ph (by show z_KL.length ≤ 106; decide +kernel) n g2⟩
end PureOf
