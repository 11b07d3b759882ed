section ZInv
variable {α : Type} {L : y_BL} {S : List y_Bv} {r : α}
theorem y_q2i_inv {f : Int → Int → List y_Bv → Option α} (h : y_q2i S f = some r) : ∃ x y S', S = y_bi y :: y_bi x :: S' ∧ f x y S' = some r := by
  unfold y_q2i at h; split at h
  · exact ⟨_, _, _, rfl, h⟩
  · cases h
theorem y_q1i_inv {f : Int → List y_Bv → Option α} (h : y_q1i S f = some r) : ∃ x S', S = y_bi x :: S' ∧ f x S' = some r := by
  unfold y_q1i at h; split at h
  · exact ⟨_, _, rfl, h⟩
  · cases h
theorem y_q2l_inv {f : Int → Int → List y_Bv → Option α} (h : y_q2l S f = some r) : ∃ x y S', S = y_bl y :: y_bl x :: S' ∧ f x y S' = some r := by
  unfold y_q2l at h; split at h
  · exact ⟨_, _, _, rfl, h⟩
  · cases h
theorem y_q1l_inv {f : Int → List y_Bv → Option α} (h : y_q1l S f = some r) : ∃ x S', S = y_bl x :: S' ∧ f x S' = some r := by
  unfold y_q1l at h; split at h
  · exact ⟨_, _, rfl, h⟩
  · cases h
theorem y_qli_inv {f : Int → Int → List y_Bv → Option α} (h : y_qli S f = some r) : ∃ x y S', S = y_bi y :: y_bl x :: S' ∧ f x y S' = some r := by
  unfold y_qli at h; split at h
  · exact ⟨_, _, _, rfl, h⟩
  · cases h
theorem y_q1o_inv {f : Nat → Nat → Nat → List y_Bv → Option α} (h : y_q1o S f = some r) : ∃ t n a S', S = y_bo t n a :: S' ∧ f t n a S' = some r := by
  unfold y_q1o at h; split at h
  · exact ⟨_, _, _, _, rfl, h⟩
  · cases h
theorem y_l1i_inv {n : Nat} {f : Int → Option α} (h : y_l1i L n f = some r) : ∃ x, L[n]? = some (some (y_bi x)) ∧ f x = some r := by
  unfold y_l1i at h; split at h
  · exact ⟨_, ‹_›, h⟩
  · cases h
theorem y_l1l_inv {n : Nat} {f : Int → Option α} (h : y_l1l L n f = some r) : ∃ x, L[n]? = some (some (y_bl x)) ∧ f x = some r := by
  unfold y_l1l at h; split at h
  · exact ⟨_, ‹_›, h⟩
  · cases h
theorem y_l1o_inv {n : Nat} {f : Nat → Nat → Nat → Option α} (h : y_l1o L n f = some r) : ∃ t k a, L[n]? = some (some (y_bo t k a)) ∧ f t k a = some r := by
  unfold y_l1o at h; split at h
  · exact ⟨_, _, _, ‹_›, h⟩
  · cases h
theorem y_bb2_inv {b : Bool} {x : Option α} (h : y_bb2 b x = some r) : b = true ∧ x = some r := by
  cases b
  · cases h
  · exact ⟨rfl, h⟩
theorem y_g_inv {p : Prop} [Decidable p] {x : y_Rs} {r : z_Ot × y_m} (h : y_g p x = some r) : p ∧ x = some r := by
  unfold y_g at h
  by_cases hp : p
  · rw [if_pos hp] at h; exact ⟨hp, h⟩
  · rw [if_neg hp] at h; cases h
end ZInv
section ZOk2
variable {dn : Nat → Nat → Nat → Prop} {nb : Nat} {sp : Nat → Nat} {ph rz : Bool} {hd : List (Nat × Nat)} {C : Nat → List y_Bv → y_m → y_Rs} {J : Nat → y_BL → List y_Bv → y_m → y_Rs} {k : y_BL → List y_Bv → y_m → y_Rs} {L : y_BL} {S : List y_Bv} {m : y_m} {P : z_P} {M : z_M} {r : z_Ot × y_m}
variable {CR : Bool → Nat → List z_Av → z_M → Bool → z_Ot → z_M → Prop} {JR : Nat → z_P → z_L → List z_Av → z_M → Prop} {kR : z_P → z_L → List z_Av → z_M → Prop} {XR : Bool → z_Ot → z_M → Prop}
theorem y_xc_ok {j n : Nat} {chk : List y_Bv → Bool} {Gd : List z_Av → Prop}
    (hC : ∀ j As m M o m1, C j As m = some (o, m1) → (∀ v ∈ As, y_okv dn v) → y_RL dn nb m M → ∃ M1, CR ph j (As.map y_eb) M ph o M1 ∧ y_RL dn nb m1 M1)
    (hJ : ∀ t L S m P M, J t L S m = some r → y_G dn nb ph L S m P M → JR t P (y_eL L) (S.map y_eb) M)
    (hk : ∀ L S m P M, k L S m = some r → y_G dn nb ph L S m P M → kR P (y_eL L) (S.map y_eb) M)
    (hX : ∀ M, y_RL dn nb r.2 M → XR ph r.1 M) (hd' : y_DN dn nb)
    (hchk : chk (S.take n).reverse = true → Gd (((S.take n).reverse).map y_eb))
    (h : y_xc hd C J k j n chk L S m = some r) (hg : y_G dn nb ph L S m P M) : z_call hd CR JR XR Gd kR j n P (y_eL L) (S.map y_eb) M := by
  obtain ⟨hb, h⟩ := y_bb2_inv h
  simp only [Bool.and_eq_true] at hb
  obtain ⟨⟨⟨⟨b1, b2⟩, b3⟩, b4⟩, b5⟩ := hb
  have hnS := y_noS_mem b4
  have hnL := y_noL_mem b5
  have hokS : ∀ v ∈ S, y_okv dn v := fun v hv => y_ok1 (hg.2.1 v hv) (hnS v hv)
  have hokL : ∀ v, some v ∈ L → y_okv dn v := fun v hv => y_ok1 (hg.1 v hv) (hnL v hv)
  have hres : ∃ o m1, C j (S.take n).reverse m = some (o, m1) ∧ ((∃ v : Option y_Bv, o = .inl (v.map y_eb) ∧ (∀ w, v = some w → y_okv dn w) ∧ k L (v.toList ++ S.drop n) m1 = some r) ∨ (∃ e, o = .inr e ∧ y_hx hd J L e m1 = some r)) := by
    cases hq : C j (S.take n).reverse m with
    | none =>
      rw [hq] at h
      split at h <;> cases h
    | some q =>
      obtain ⟨o, m1⟩ := q
      rw [hq] at h
      refine ⟨o, m1, rfl, ?_⟩
      split at h
      · rcases o with (_ | v) | e
        · exact Or.inl ⟨none, rfl, fun w hw => (by cases hw), h⟩
        · cases h
        · exact Or.inr ⟨e, rfl, h⟩
      · rcases o with (_ | v | v | v) | e
        · cases h
        · exact Or.inl ⟨some (y_bi v), rfl, fun w hw => (by cases hw; exact y_okI), h⟩
        · cases h
        · cases h
        · exact Or.inr ⟨e, rfl, h⟩
      · rcases o with (_ | v | v | v) | e
        · cases h
        · cases h
        · exact Or.inl ⟨some (y_bl v), rfl, fun w hw => (by cases hw; exact y_okL), h⟩
        · cases h
        · exact Or.inr ⟨e, rfl, h⟩
  obtain ⟨o, m1, hq, hres⟩ := hres
  obtain ⟨M1, hM1, hr1⟩ := hC _ _ _ M _ _ hq (fun v hv => hokS v (List.mem_of_mem_take (List.mem_reverse.mp hv))) hg.2.2.1
  have hg1 : ∀ S', (∀ v ∈ S', y_okv dn v) → y_G dn nb ph L S' m1 (ph, 0) M1 := by
    intro S' hS'
    refine ⟨fun v hv => (hokL v hv).1, fun v hv => (hS' v hv).1, hr1, rfl, fun v n hv hn => ?_⟩
    rcases hv with hv | hv
    · rw [(hokL v hv).2] at hn; cases hn
    · rw [(hS' v hv).2] at hn; cases hn
  refine ⟨(S.take n).map y_eb, (S.drop n).map y_eb, o, M1, ph, ph, ?_, ?_, ?_, Or.inl hg.2.2.2.1.symm, ?_, ?_, ?_⟩
  · rw [← List.map_append, List.take_append_drop]
  · rw [List.length_map, List.length_take]; exact Nat.min_eq_left (Nat.le_of_ble_eq_true b1)
  · rw [← List.map_reverse]; exact hchk b2
  · rw [← List.map_reverse]; exact hM1
  · rw [y_cs_sum]; exact Nat.le_of_ble_eq_true b3
  · unfold z_back
    rcases hres with ⟨v, rfl, hv, hkk⟩ | ⟨e, rfl, hx⟩
    · dsimp only
      have := hk _ _ _ (ph, 0) M1 hkk (hg1 _ (fun w hw => by
        rcases List.mem_append.mp hw with hw | hw
        · cases v with
          | none => cases hw
          | some u =>
            rcases List.mem_cons.mp hw with rfl | hw
            · exact hv _ rfl
            · cases hw
        · exact hokS w (List.mem_of_mem_drop hw)))
      rw [List.map_append] at this
      cases v with
      | none => exact this
      | some u => exact this
    · dsimp only
      unfold y_hx at hx
      cases hd with
      | nil =>
        cases hx
        exact ⟨rfl, hX _ hr1⟩
      | cons q hr =>
        dsimp only at hx
        cases hl : List.lookup e (q :: hr) with
        | none => rw [hl] at hx; cases hx
        | some t =>
          rw [hl] at hx
          obtain ⟨-, hx⟩ := y_bb2_inv hx
          dsimp only
          refine ⟨fun v hv => ?_, hJ _ _ _ _ (ph, 0) M1 hx (hg1 _ (fun w hw => ?_))⟩
          · obtain ⟨w, hw, rfl⟩ := List.mem_map.mp hv
            cases w with
            | none => exact fun z => by cases z
            | some w => exact fun z => (y_no1_ad hd' (hokL w hw).1 (hnL w hw)).2 (Option.some.inj z)
          · rcases List.mem_cons.mp hw with rfl | hw
            · exact y_okX
            · cases hw
theorem y_x1_ok {i : z_In}
    (hC : ∀ j As m M o m1, C j As m = some (o, m1) → (∀ v ∈ As, y_okv dn v) → y_RL dn nb m M → ∃ M1, CR ph j (As.map y_eb) M ph o M1 ∧ y_RL dn nb m1 M1)
    (hJ : ∀ t L S m P M, J t L S m = some r → y_G dn nb ph L S m P M → JR t P (y_eL L) (S.map y_eb) M)
    (hk : ∀ L S m P M, k L S m = some r → y_G dn nb ph L S m P M → kR P (y_eL L) (S.map y_eb) M)
    (hX : ∀ M, y_RL dn nb r.2 M → XR ph r.1 M) (hd' : y_DN dn nb)
    (h : y_x1 sp ph rz hd C J i L S m k = some r) (hg : y_G dn nb ph L S m P M) : z_one sp rz hd CR JR XR i P (y_eL L) (S.map y_eb) M kR := by
  obtain ⟨ins, pc, a, b, z⟩ := i
  unfold y_x1 at h
  cases ins <;> dsimp only at h
  case iconst n => exact hk _ _ _ _ _ h (y_G_push y_okI hg)
  case bipush n => exact hk _ _ _ _ _ h (y_G_push y_okI hg)
  case sipush n => exact hk _ _ _ _ _ h (y_G_push y_okI hg)
  case lconst n => exact hk _ _ _ _ _ h (y_G_push y_okL hg)
  case ldc n =>
    show if a = 1 then b < 5 ∧ kR P (y_eL L) (z_r (some (500000 + b)) :: S.map y_eb) M else kR P (y_eL L) (z_i z :: S.map y_eb) M
    split at h
    · obtain ⟨h1, h⟩ := y_bb2_inv h
      have h2 : b < 5 := Nat.lt_succ_of_le (Nat.le_of_ble_eq_true h1)
      rw [if_pos rfl]
      exact ⟨h2, hk _ _ _ _ _ h (y_G_push (y_okW h2) hg)⟩
    · rename_i hne
      rw [if_neg hne]
      exact hk _ _ _ _ _ h (y_G_push y_okI hg)
  case ldc_w n => exact hk _ _ _ _ _ h (y_G_push y_okI hg)
  case ldc2_w n => exact hk _ _ _ _ _ h (y_G_push y_okL hg)
  case iload n => obtain ⟨x, h1, h⟩ := y_l1i_inv h; exact ⟨x, y_eL_get h1, hk _ _ _ _ _ h (y_G_load h1 hg)⟩
  case iload_n n => obtain ⟨x, h1, h⟩ := y_l1i_inv h; exact ⟨x, y_eL_get h1, hk _ _ _ _ _ h (y_G_load h1 hg)⟩
  case lload n => obtain ⟨x, h1, h⟩ := y_l1l_inv h; exact ⟨x, y_eL_get h1, hk _ _ _ _ _ h (y_G_load h1 hg)⟩
  case lload_n n => obtain ⟨x, h1, h⟩ := y_l1l_inv h; exact ⟨x, y_eL_get h1, hk _ _ _ _ _ h (y_G_load h1 hg)⟩
  case aload n => obtain ⟨t, l, o, h1, h⟩ := y_l1o_inv h; exact ⟨_, y_eL_get h1, hk _ _ _ _ _ h (y_G_load h1 hg)⟩
  case aload_n n => obtain ⟨t, l, o, h1, h⟩ := y_l1o_inv h; exact ⟨_, y_eL_get h1, hk _ _ _ _ _ h (y_G_load h1 hg)⟩
  case istore n =>
    obtain ⟨x, S', rfl, h9⟩ := y_q1i_inv h
    obtain ⟨h1, h9⟩ := y_bb2_inv h9
    refine ⟨x, _, rfl, by rw [y_eL_len]; exact Nat.le_of_ble_eq_true h1, ?_⟩
    rw [show z_i x = y_eb (y_bi x) from rfl, ← y_eL_p1]
    exact hk _ _ _ _ _ h9 (y_G_p1 hg)
  case istore_n n =>
    obtain ⟨x, S', rfl, h9⟩ := y_q1i_inv h
    obtain ⟨h1, h9⟩ := y_bb2_inv h9
    refine ⟨x, _, rfl, by rw [y_eL_len]; exact Nat.le_of_ble_eq_true h1, ?_⟩
    rw [show z_i x = y_eb (y_bi x) from rfl, ← y_eL_p1]
    exact hk _ _ _ _ _ h9 (y_G_p1 hg)
  case lstore n =>
    obtain ⟨x, S', rfl, h9⟩ := y_q1l_inv h
    obtain ⟨h1, h9⟩ := y_bb2_inv h9
    refine ⟨x, _, rfl, by rw [y_eL_len]; exact Nat.le_of_ble_eq_true h1, ?_⟩
    rw [show z_l x = y_eb (y_bl x) from rfl, ← y_eL_p2]
    exact hk _ _ _ _ _ h9 (y_G_p2 hg)
  case lstore_n n =>
    obtain ⟨x, S', rfl, h9⟩ := y_q1l_inv h
    obtain ⟨h1, h9⟩ := y_bb2_inv h9
    refine ⟨x, _, rfl, by rw [y_eL_len]; exact Nat.le_of_ble_eq_true h1, ?_⟩
    rw [show z_l x = y_eb (y_bl x) from rfl, ← y_eL_p2]
    exact hk _ _ _ _ _ h9 (y_G_p2 hg)
  case astore n =>
    obtain ⟨t, l, o, S', rfl, h9⟩ := y_q1o_inv h
    obtain ⟨h1, h9⟩ := y_bb2_inv h9
    refine ⟨_, _, rfl, by rw [y_eL_len]; exact Nat.le_of_ble_eq_true h1, ?_⟩
    rw [show z_r (some (y_ad1 t o)) = y_eb (y_bo t l o) from rfl, ← y_eL_p1]
    exact hk _ _ _ _ _ h9 (y_G_p1 hg)
  case astore_n n =>
    obtain ⟨t, l, o, S', rfl, h9⟩ := y_q1o_inv h
    obtain ⟨h1, h9⟩ := y_bb2_inv h9
    refine ⟨_, _, rfl, by rw [y_eL_len]; exact Nat.le_of_ble_eq_true h1, ?_⟩
    rw [show z_r (some (y_ad1 t o)) = y_eb (y_bo t l o) from rfl, ← y_eL_p1]
    exact hk _ _ _ _ _ h9 (y_G_p1 hg)
  case iinc n d =>
    obtain ⟨x, h1, h⟩ := y_l1i_inv h
    refine ⟨x, y_eL_get h1, ?_⟩
    rw [show z_i (x + d) = y_eb (y_bi (x + d)) from rfl, ← y_eL_p1]
    exact hk _ _ _ _ _ h (y_G_p1 (y_G_push y_okI hg))
  case iadd => obtain ⟨x, y, S', rfl, h9⟩ := y_q2i_inv h; exact ⟨x, y, _, rfl, hk _ _ _ _ _ h9 (y_G_push y_okI (y_G_drop2 hg))⟩
  case isub => obtain ⟨x, y, S', rfl, h9⟩ := y_q2i_inv h; exact ⟨x, y, _, rfl, hk _ _ _ _ _ h9 (y_G_push y_okI (y_G_drop2 hg))⟩
  case imul => obtain ⟨x, y, S', rfl, h9⟩ := y_q2i_inv h; exact ⟨x, y, _, rfl, hk _ _ _ _ _ h9 (y_G_push y_okI (y_G_drop2 hg))⟩
  case ineg => obtain ⟨x, S', rfl, h9⟩ := y_q1i_inv h; exact ⟨x, _, rfl, hk _ _ _ _ _ h9 (y_G_push y_okI (y_G_drop hg))⟩
  case idiv => obtain ⟨x, y, S', rfl, h9⟩ := y_q2i_inv h; obtain ⟨h1, h9⟩ := y_g_inv h9; exact ⟨x, y, _, rfl, h1, hk _ _ _ _ _ h9 (y_G_push y_okI (y_G_drop2 hg))⟩
  case irem => obtain ⟨x, y, S', rfl, h9⟩ := y_q2i_inv h; obtain ⟨h1, h9⟩ := y_g_inv h9; exact ⟨x, y, _, rfl, h1, hk _ _ _ _ _ h9 (y_G_push y_okI (y_G_drop2 hg))⟩
  case iand => obtain ⟨x, y, S', rfl, h9⟩ := y_q2i_inv h; exact ⟨x, y, _, rfl, hk _ _ _ _ _ h9 (y_G_push y_okI (y_G_drop2 hg))⟩
  case ior => obtain ⟨x, y, S', rfl, h9⟩ := y_q2i_inv h; exact ⟨x, y, _, rfl, hk _ _ _ _ _ h9 (y_G_push y_okI (y_G_drop2 hg))⟩
  case ixor => obtain ⟨x, y, S', rfl, h9⟩ := y_q2i_inv h; exact ⟨x, y, _, rfl, hk _ _ _ _ _ h9 (y_G_push y_okI (y_G_drop2 hg))⟩
  case ishl => obtain ⟨x, y, S', rfl, h9⟩ := y_q2i_inv h; exact ⟨x, y, _, rfl, hk _ _ _ _ _ h9 (y_G_push y_okI (y_G_drop2 hg))⟩
  case ishr => obtain ⟨x, y, S', rfl, h9⟩ := y_q2i_inv h; exact ⟨x, y, _, rfl, hk _ _ _ _ _ h9 (y_G_push y_okI (y_G_drop2 hg))⟩
  case iushr => obtain ⟨x, y, S', rfl, h9⟩ := y_q2i_inv h; exact ⟨x, y, _, rfl, hk _ _ _ _ _ h9 (y_G_push y_okI (y_G_drop2 hg))⟩
  case ladd => obtain ⟨x, y, S', rfl, h9⟩ := y_q2l_inv h; exact ⟨x, y, _, rfl, hk _ _ _ _ _ h9 (y_G_push y_okL (y_G_drop2 hg))⟩
  case lsub => obtain ⟨x, y, S', rfl, h9⟩ := y_q2l_inv h; exact ⟨x, y, _, rfl, hk _ _ _ _ _ h9 (y_G_push y_okL (y_G_drop2 hg))⟩
  case lmul => obtain ⟨x, y, S', rfl, h9⟩ := y_q2l_inv h; exact ⟨x, y, _, rfl, hk _ _ _ _ _ h9 (y_G_push y_okL (y_G_drop2 hg))⟩
  case lneg => obtain ⟨x, S', rfl, h9⟩ := y_q1l_inv h; exact ⟨x, _, rfl, hk _ _ _ _ _ h9 (y_G_push y_okL (y_G_drop hg))⟩
  case ldiv => obtain ⟨x, y, S', rfl, h9⟩ := y_q2l_inv h; obtain ⟨h1, h9⟩ := y_g_inv h9; exact ⟨x, y, _, rfl, h1, hk _ _ _ _ _ h9 (y_G_push y_okL (y_G_drop2 hg))⟩
  case lrem => obtain ⟨x, y, S', rfl, h9⟩ := y_q2l_inv h; obtain ⟨h1, h9⟩ := y_g_inv h9; exact ⟨x, y, _, rfl, h1, hk _ _ _ _ _ h9 (y_G_push y_okL (y_G_drop2 hg))⟩
  case land => obtain ⟨x, y, S', rfl, h9⟩ := y_q2l_inv h; exact ⟨x, y, _, rfl, hk _ _ _ _ _ h9 (y_G_push y_okL (y_G_drop2 hg))⟩
  case lor => obtain ⟨x, y, S', rfl, h9⟩ := y_q2l_inv h; exact ⟨x, y, _, rfl, hk _ _ _ _ _ h9 (y_G_push y_okL (y_G_drop2 hg))⟩
  case lshl => obtain ⟨x, y, S', rfl, h9⟩ := y_qli_inv h; exact ⟨x, y, _, rfl, hk _ _ _ _ _ h9 (y_G_push y_okL (y_G_drop2 hg))⟩
  case lshr => obtain ⟨x, y, S', rfl, h9⟩ := y_qli_inv h; exact ⟨x, y, _, rfl, hk _ _ _ _ _ h9 (y_G_push y_okL (y_G_drop2 hg))⟩
  case lcmp => obtain ⟨x, y, S', rfl, h9⟩ := y_q2l_inv h; exact ⟨x, y, _, rfl, hk _ _ _ _ _ h9 (y_G_push y_okI (y_G_drop2 hg))⟩
  case i2l => obtain ⟨x, S', rfl, h9⟩ := y_q1i_inv h; exact ⟨x, _, rfl, hk _ _ _ _ _ h9 (y_G_push y_okL (y_G_drop hg))⟩
  case l2i => obtain ⟨x, S', rfl, h9⟩ := y_q1l_inv h; exact ⟨x, _, rfl, hk _ _ _ _ _ h9 (y_G_push y_okI (y_G_drop hg))⟩
  case dup =>
    split at h
    · rename_i v S'
      obtain ⟨h1, h⟩ := y_bb2_inv h
      refine ⟨y_eb v, _, rfl, y_bc_c1 h1, hk _ (v :: v :: S') _ _ _ h (y_G_sub hg hg.2.2.1 (fun w hw => Or.inl (Or.inl hw)) (fun w hw => Or.inl (Or.inr ?_)))⟩
      rcases List.mem_cons.mp hw with rfl | hw
      · exact List.mem_cons_self
      · exact hw
    · cases h
  case dup2 =>
    split at h
    · rename_i v u S'
      obtain ⟨h1, h⟩ := y_bb2_inv h
      rw [Bool.and_eq_true] at h1
      refine ⟨y_eb v, y_eb u, _, rfl, y_bc_c1 h1.1, y_bc_c1 h1.2, hk _ (v :: u :: v :: u :: S') _ _ _ h (y_G_sub hg hg.2.2.1 (fun w hw => Or.inl (Or.inl hw)) (fun w hw => Or.inl (Or.inr ?_)))⟩
      rcases List.mem_cons.mp hw with rfl | hw
      · exact List.mem_cons_self
      · rcases List.mem_cons.mp hw with rfl | hw
        · exact List.mem_cons_of_mem _ List.mem_cons_self
        · exact hw
    · cases h
  case pop =>
    split at h
    · rename_i v S'
      obtain ⟨h1, h⟩ := y_bb2_inv h
      exact ⟨y_eb v, _, rfl, y_bc_c1 h1, hk _ _ _ _ _ h (y_G_drop hg)⟩
    · cases h
  case goto off => exact hJ _ _ _ _ _ _ h hg
  case if_icmp c off =>
    obtain ⟨x, y, S', rfl, h9⟩ := y_q2i_inv h
    refine ⟨x, y, _, rfl, fun q => ?_, fun q => ?_⟩
    · rw [if_pos q] at h9; exact hJ _ _ _ _ _ _ h9 (y_G_drop2 hg)
    · rw [if_neg q] at h9; exact hk _ _ _ _ _ h9 (y_G_drop2 hg)
  case ifCond c off =>
    obtain ⟨x, S', rfl, h9⟩ := y_q1i_inv h
    refine ⟨x, _, rfl, fun q => ?_, fun q => ?_⟩
    · rw [if_pos (z_cz_ok.mp q)] at h9; exact hJ _ _ _ _ _ _ h9 (y_G_drop hg)
    · rw [if_neg (fun w => q (z_cz_ok.mpr w))] at h9; exact hk _ _ _ _ _ h9 (y_G_drop hg)
  case ifnonnull off =>
    obtain ⟨t, l, o, S', rfl, h9⟩ := y_q1o_inv h
    exact ⟨_, _, rfl, hJ _ _ _ _ _ _ h9 (y_G_drop hg)⟩
  case tableswitch dd lo hi offs =>
    obtain ⟨x, S', rfl, h9⟩ := y_q1i_inv h
    refine ⟨x, _, rfl, fun q => ?_, fun q1 q2 => ?_⟩
    · rw [if_pos q] at h9; exact hJ _ _ _ _ _ _ h9 (y_G_drop hg)
    · rw [if_neg (fun w => w.elim q1 q2)] at h9
      cases hq : offs[(z_w x - lo).toNat]? with
      | none => rw [hq] at h9; cases h9
      | some off => rw [hq] at h9; exact ⟨off, rfl, hJ _ _ _ _ _ _ h9 (y_G_drop hg)⟩
  case ireturn =>
    split at h
    · rename_i x
      cases rz with
      | false => cases h; exact ⟨x, rfl, fun z => (by cases z), by rw [hg.2.2.2.1]; exact hX _ hg.2.2.1⟩
      | true =>
        obtain ⟨h1, h⟩ := y_g_inv h
        cases h; exact ⟨x, rfl, fun _ => h1, by rw [hg.2.2.2.1]; exact hX _ hg.2.2.1⟩
    · cases h
  case lreturn =>
    split at h
    · rename_i x; cases h; exact ⟨x, rfl, by rw [hg.2.2.2.1]; exact hX _ hg.2.2.1⟩
    · cases h
  case return_ =>
    split at h
    · cases h; exact ⟨rfl, by rw [hg.2.2.2.1]; exact hX _ hg.2.2.1⟩
    · cases h
  case getfield f =>
    obtain ⟨t, n, o, S', rfl, h9⟩ := y_q1o_inv h
    obtain ⟨h1, h9⟩ := y_bb2_inv h9
    rw [Bool.and_eq_true] at h1
    have ht : t = a := Nat.eq_of_beq_eq_true h1.1
    subst ht
    have ht : t ≤ 49 := Nat.le_of_ble_eq_true h1.2
    have hdn := y_VD_ref hg (by omega)
    have hn := (hd'.1 _ _ _ hdn).2.2.2 ht
    subst hn
    refine ⟨y_ad1 t o, _, rfl, ?_, ?_⟩
    · rw [y_ad1_lt (by omega)]; exact y_kd_dn hd' hg.2.2.1 hdn hg.2.2.2.1
    · rw [y_ad1_lt (by omega)]
      split at h9
      · rename_i hf
        obtain ⟨q1, q2⟩ := hg.2.2.1.2.2.2.2.2.1 t o b ht hdn hf
        have hlt := (hd'.1 _ _ _ q2)
        have ht2 : (y_rk t b).1 ≤ 103 := by
          rcases Nat.lt_or_ge 103 (y_rk t b).1 with hh | hh
          · have e3 := hlt.2.2.1
            have : ∀ q, q < z_KL.length → (z_KL.getD q (98, 0)).1 ≤ 103 := by decide
            have e4 := this _ hlt.2.1
            rw [e3] at e4; exact absurd e4 (by omega)
          · exact hh
        have := hk _ _ _ _ _ h9 (y_G_push (y_okR q2 ht2) (y_G_drop hg))
        unfold z_fv
        rw [if_pos hf, q1]
        rw [List.map_cons] at this
        have e : y_eb (y_bo (y_rk t b).1 (y_rk t b).2 (y_ra m t b o)) = z_r (some (y_ra m t b o)) := by
          show z_r (some (y_ad1 _ _)) = _
          rw [y_ad1_lt ht2]
        rw [e] at this
        exact this
      · rename_i hf
        have := hk _ _ _ _ _ h9 (y_G_push y_okI (y_G_drop hg))
        unfold z_fv
        rw [if_neg hf, hg.2.2.1.2.2.1]
        exact this
  case putfield f =>
    split at h
    · rename_i x t n o S'
      obtain ⟨h1, h⟩ := y_bb2_inv h
      rw [Bool.and_eq_true] at h1
      have ht : t = a := Nat.eq_of_beq_eq_true h1.1
      subst ht
      have ht : t ≤ 49 := Nat.le_of_ble_eq_true h1.2
      have hdn := y_VD_ref (y_G_drop hg) (by omega)
      have hn := (hd'.1 _ _ _ hdn).2.2.2 ht
      subst hn
      have hgg := y_G_mem (y_RL_sI (a := o) (k := b) (x := x) hg.2.2.1) (y_G_drop2 hg)
      split at h
      · rename_i hf
        refine Or.inl ⟨y_ad1 t o, x, _, rfl, ?_, Or.inl hf, ?_⟩
        · rw [y_ad1_lt (by omega)]; exact y_kd_dn hd' hg.2.2.1 hdn hg.2.2.2.1
        · rw [y_ad1_lt (by omega)]; exact hk _ _ _ _ _ h hgg
      · rename_i hf
        obtain ⟨h2, h⟩ := y_g_inv h
        refine Or.inl ⟨y_ad1 t o, x, _, rfl, ?_, Or.inr ⟨hf, h2⟩, ?_⟩
        · rw [y_ad1_lt (by omega)]; exact y_kd_dn hd' hg.2.2.1 hdn hg.2.2.2.1
        · rw [y_ad1_lt (by omega)]; exact hk _ _ _ _ _ h hgg
      · cases h
    · rename_i u n' o' t n o S'
      obtain ⟨h1, h9⟩ := y_bb2_inv h
      clear h
      simp only [Bool.and_eq_true, Bool.or_eq_true] at h1
      obtain ⟨⟨⟨h1, h2⟩, h3⟩, h4⟩ := h1
      have ht : t = 10 := Nat.eq_of_beq_eq_true h1
      have ha : a = 10 := Nat.eq_of_beq_eq_true h2
      have hu : u = 0 := Nat.eq_of_beq_eq_true h3
      subst ht; subst ha; subst hu
      have hb : b = 9 ∨ b = 10 := h4.imp Nat.eq_of_beq_eq_true Nat.eq_of_beq_eq_true
      have hdn := y_VD_ref (y_G_drop hg) (by omega)
      have hdb := y_VD_ref hg (by omega)
      have ho := hd'.2 _ _ hdn
      subst ho
      have hlt := (hd'.1 _ _ _ hdb).2.1
      have hl : z_KL.length = 106 := rfl
      refine Or.inr ⟨0, o', _, rfl, ?_, ?_, by omega, ?_⟩
      · have := y_kd_dn hd' hg.2.2.1 hdn hg.2.2.2.1
        have hn := (hd'.1 _ _ _ hdn).2.2.2 (by omega)
        subst hn
        exact this
      · rcases hb with rfl | rfl <;> rfl
      · exact hk _ _ _ _ _ h9 (y_G_mem (y_RL_sB hd' hb hdn hdb hg.2.2.1) (y_G_drop2 hg))
    · cases h
  case iaload =>
    split at h
    · rename_i x t n o S'
      split at h
      · obtain ⟨⟨h1, h2⟩, h⟩ := y_g_inv h
        have hdn := y_VD_ref (y_G_drop hg) (by omega)
        have := hk _ _ _ _ _ h (y_G_push y_okI (y_G_drop2 hg))
        refine Or.inl ⟨o, x, _, n, rfl, y_kd_dn hd' hg.2.2.1 hdn hg.2.2.2.1, h1, h2, ?_⟩
        rw [hg.2.2.1.2.2.1]; exact this
      · obtain ⟨⟨h1, h2, h3⟩, h⟩ := y_g_inv h
        exact Or.inr ⟨x, _, rfl, h1, h2, h3, hk _ _ _ _ _ h (y_G_push y_okI (y_G_drop2 hg))⟩
      · obtain ⟨⟨h1, h2⟩, h⟩ := y_g_inv h
        have := hk _ _ _ _ _ h (y_G_push y_okI (y_G_drop2 hg))
        obtain ⟨g1, g2, g3⟩ := hg.2.2.2.2 (y_bo 107 n o) n (Or.inr (List.mem_cons_of_mem _ List.mem_cons_self)) rfl
        refine Or.inl ⟨300000, x, _, n, rfl, y_kd_own g3 g2, h1, h2, ?_⟩
        rw [hg.2.2.1.2.2.1]; exact this
      · cases h
    · cases h
  case laload =>
    split at h
    · rename_i x t n o S'
      obtain ⟨h0, h⟩ := y_bb2_inv h
      have ht : t = 101 := Nat.eq_of_beq_eq_true h0
      subst ht
      obtain ⟨⟨h1, h2⟩, h⟩ := y_g_inv h
      have hdn := y_VD_ref (y_G_drop hg) (by omega)
      have := hk _ _ _ _ _ h (y_G_push y_okL (y_G_drop2 hg))
      refine ⟨o, x, _, n, rfl, y_kd_dn hd' hg.2.2.1 hdn hg.2.2.2.1, h1, h2, ?_⟩
      rw [hg.2.2.1.2.2.2.1]; exact this
    · cases h
  case aaload =>
    split at h
    · rename_i x t n o S'
      obtain ⟨h0, h⟩ := y_bb2_inv h
      have ht : t = 102 ∨ t = 103 := by
        rw [Bool.or_eq_true] at h0
        exact h0.imp Nat.eq_of_beq_eq_true Nat.eq_of_beq_eq_true
      obtain ⟨⟨h1, h2⟩, h⟩ := y_g_inv h
      have hdn := y_VD_ref (y_G_drop hg) (by omega)
      obtain ⟨q1, q2⟩ := hg.2.2.1.2.2.2.2.2.2 t n o x.toNat ht hdn (by omega)
      have hlt := (hd'.1 _ _ _ q2)
      have ht2 : (y_rx o).1 ≤ 103 := by
        rcases Nat.lt_or_ge 103 (y_rx o).1 with hh | hh
        · have e3 := hlt.2.2.1
          have : ∀ q, q < z_KL.length → (z_KL.getD q (98, 0)).1 ≤ 103 := by decide
          have e4 := this _ hlt.2.1
          rw [e3] at e4; exact absurd e4 (by omega)
        · exact hh
      have := hk _ _ _ _ _ h (y_G_push (y_okR q2 ht2) (y_G_drop2 hg))
      refine ⟨y_ad1 t o, x, _, t, n, rfl, ?_, ht, h1, h2, ?_⟩
      · rw [y_ad1_lt (by omega)]; exact y_kd_dn hd' hg.2.2.1 hdn hg.2.2.2.1
      · rw [y_ad1_lt (by omega), q1]
        rw [List.map_cons] at this
        have e : ∀ q, y_eb (y_bo (y_rx o).1 (y_rx o).2.1 q) = z_r (some q) := by
          intro q
          show z_r (some (y_ad1 _ _)) = _
          rw [y_ad1_lt ht2]
        rw [e] at this
        exact this
    · cases h
  case iastore =>
    split at h
    · rename_i v x t n o S'
      split at h
      · obtain ⟨⟨h1, h2⟩, h⟩ := y_g_inv h
        have hdn := y_VD_ref (y_G_drop2 hg) (by omega)
        exact ⟨o, x, v, _, n, rfl, y_kd_dn hd' hg.2.2.1 hdn hg.2.2.2.1, h1, h2, hk _ _ _ _ _ h (y_G_mem (y_RL_sI hg.2.2.1) (y_G_drop3 hg))⟩
      · obtain ⟨⟨h1, h2⟩, h⟩ := y_g_inv h
        obtain ⟨g1, g2, g3⟩ := hg.2.2.2.2 (y_bo 107 n o) n (Or.inr (List.mem_cons_of_mem _ (List.mem_cons_of_mem _ List.mem_cons_self))) rfl
        exact ⟨300000, x, v, _, n, rfl, y_kd_own g3 g2, h1, h2, hk _ _ _ _ _ h (y_G_mem (y_RL_sI hg.2.2.1) (y_G_drop3 hg))⟩
      · cases h
    · cases h
  case lastore =>
    split at h
    · rename_i v x t n o S'
      obtain ⟨h0, h⟩ := y_bb2_inv h
      have ht : t = 101 := Nat.eq_of_beq_eq_true h0
      subst ht
      obtain ⟨⟨h1, h2⟩, h⟩ := y_g_inv h
      have hdn := y_VD_ref (y_G_drop2 hg) (by omega)
      exact ⟨o, x, v, _, n, rfl, y_kd_dn hd' hg.2.2.1 hdn hg.2.2.2.1, h1, h2, hk _ _ _ _ _ h (y_G_mem (y_RL_sJ hg.2.2.1) (y_G_drop3 hg))⟩
    · cases h
  case arraylength =>
    obtain ⟨t, n, o, S', rfl, h9⟩ := y_q1o_inv h
    have hrow : ∀ t, t ≤ 103 → 100 ≤ t → k L (y_bi (n : Int) :: S') m = some r → y_G dn nb ph L (y_bo t n o :: S') m P M → z_one sp rz hd CR JR XR (.arraylength, pc, a, b, z) P (y_eL L) ((y_bo t n o :: S').map y_eb) M kR := by
      intro t h1 h2 h9 hg
      have hdn := y_VD_ref hg h1
      refine Or.inl ⟨y_ad1 t o, _, t, n, rfl, ?_, h2, h1, hk _ _ _ _ _ h9 (y_G_push y_okI (y_G_drop hg))⟩
      rw [y_ad1_lt h1]; exact y_kd_dn hd' hg.2.2.1 hdn hg.2.2.2.1
    split at h9
    · exact hrow _ (by omega) (by omega) h9 hg
    · exact hrow _ (by omega) (by omega) h9 hg
    · exact hrow _ (by omega) (by omega) h9 hg
    · exact hrow _ (by omega) (by omega) h9 hg
    · obtain ⟨g1, g2, g3⟩ := hg.2.2.2.2 (y_bo 107 n o) n (Or.inr List.mem_cons_self) rfl
      exact Or.inl ⟨300000, _, 100, n, rfl, y_kd_own g3 g2, by omega, by omega, hk _ _ _ _ _ h9 (y_G_push y_okI (y_G_drop hg))⟩
    · exact Or.inr ⟨_, rfl, hk _ _ _ _ _ h9 (y_G_push y_okI (y_G_drop hg))⟩
    · cases h9
  case newarray t =>
    cases t <;> dsimp only at h
    case int =>
      obtain ⟨x, S', rfl, h9⟩ := y_q1i_inv h
      obtain ⟨h0, h9⟩ := y_bb2_inv h9
      simp only [Bool.and_eq_true] at h0
      obtain ⟨⟨hph, b4⟩, b5⟩ := h0
      obtain ⟨⟨h1, h2⟩, h9⟩ := y_g_inv h9
      have hnS := y_noS_mem b4
      have hnL := y_noL_mem b5
      have hokS : ∀ v ∈ S', y_okv dn v := fun v hv => y_ok1 (hg.2.1 v (List.mem_cons_of_mem _ hv)) (hnS v hv)
      have hokL : ∀ v, some v ∈ L → y_okv dn v := fun v hv => y_ok1 (hg.1 v hv) (hnL v hv)
      refine Or.inr (Or.inr ⟨x.toNat, S'.map y_eb, ?_, ?_, by omega, by omega, rfl, ?_, ?_, ?_⟩)
      · rw [List.map_cons]
        show z_i x :: _ = _
        rw [Int.toNat_of_nonneg (by omega)]
      · rw [hg.2.2.2.1]; exact hph
      · intro v hv
        obtain ⟨w, hw, rfl⟩ := List.mem_map.mp hv
        exact (y_no1_ad hd' (hokS w hw).1 (hnS w hw)).1
      · intro v hv
        obtain ⟨w, hw, rfl⟩ := List.mem_map.mp hv
        cases w with
        | none => exact fun z => by cases z
        | some w => exact fun z => (y_no1_ad hd' (hokL w hw).1 (hnL w hw)).1 (Option.some.inj z)
      · refine hk _ _ _ (true, x.toNat) _ h9 ⟨fun v hv => (hokL v hv).1, fun v hv => ?_, y_RL_nm hg.2.2.1, hph.symm, fun v n hv hn => ?_⟩
        · rcases List.mem_cons.mp hv with rfl | hv
          · exact Or.inr (Or.inr (Or.inr (Or.inr rfl)))
          · exact (hokS v hv).1
        · rcases hv with hv | hv
          · rw [(hokL v hv).2] at hn; cases hn
          · rcases List.mem_cons.mp hv with rfl | hv
            · have : some x.toNat = some n := hn
              cases this
              exact ⟨hph, by omega, rfl⟩
            · rw [(hokS v hv).2] at hn; cases hn
    all_goals cases h
  case new f =>
    obtain ⟨h0, h⟩ := y_bb2_inv h
    simp only [Bool.and_eq_true] at h0
    obtain ⟨⟨h1, h2⟩, h3⟩ := h0
    have h1 := Nat.le_of_ble_eq_true h1
    show if a < 50 then _ else _
    rw [if_neg (by omega)]
    cases h
    refine ⟨by rw [hg.2.2.2.1]; exact h2, by rw [y_cs_sum]; exact Nat.le_of_ble_eq_true h3, ?_⟩
    have := hX _ (y_RL_tm hg.2.2.1)
    rw [h2] at this
    exact this
  case invokestatic f => exact y_xc_ok (Gd := fun _ => True) hC hJ hk hX hd' (fun _ => trivial) h hg
  case invokevirtual f =>
    refine y_xc_ok (Gd := fun As => (900 ≤ a ∧ ∃ k v, k < 5 ∧ As = z_r (some (500000 + k)) :: v) ∨ a < 900 ∧ ∃ a v, As = z_r (some a) :: v ∧ z_kd P M a = (z.toNat % 16, 0)) hC hJ hk hX hd' (fun q => ?_) h hg
    have hVD : ∀ v ∈ (S.take (b + 1)).reverse, y_VD dn v := fun v hv => hg.2.1 v (List.mem_of_mem_take (List.mem_reverse.mp hv))
    generalize (S.take (b + 1)).reverse = As at q hVD
    unfold y_ckV at q
    split at q
    · rename_i t n o v
      have hv : (t ≤ 103 ∧ dn t n o) ∨ (t = 104 ∧ o < 5) ∨ t = 105 ∨ t = 106 ∨ t = 107 := hVD _ List.mem_cons_self
      by_cases h9 : Nat.ble 900 a = true
      · rw [if_pos h9] at q
        have ht : t = 104 := Nat.eq_of_beq_eq_true q
        subst ht
        refine Or.inl ⟨Nat.le_of_ble_eq_true h9, o, v.map y_eb, ?_, rfl⟩
        omega
      · rw [if_neg h9, Bool.and_eq_true] at q
        have ht : t = z.toNat % 16 := Nat.eq_of_beq_eq_true q.1
        have hc : z.toNat % 16 ≤ 49 := Nat.le_of_ble_eq_true q.2
        have hdn : dn t n o := by
          rcases hv with hv | hv | hv | hv | hv
          · exact hv.2
          all_goals omega
        have hn := (hd'.1 _ _ _ hdn).2.2.2 (by omega)
        subst hn
        refine Or.inr ⟨?_, o, v.map y_eb, ?_, ?_⟩
        · rcases Nat.lt_or_ge a 900 with hh | hh
          · exact hh
          · exact absurd (Nat.ble_eq_true_of_le hh) h9
        · rw [List.map_cons]
          show z_r (some (y_ad1 t o)) :: _ = _
          rw [y_ad1_lt (by omega)]
        · rw [← ht]; exact y_kd_dn hd' hg.2.2.1 hdn hg.2.2.2.1
    · cases q
  all_goals exact nomatch h
theorem y_xb_ok
    (hC : ∀ j As m M o m1, C j As m = some (o, m1) → (∀ v ∈ As, y_okv dn v) → y_RL dn nb m M → ∃ M1, CR ph j (As.map y_eb) M ph o M1 ∧ y_RL dn nb m1 M1)
    (hJ : ∀ t L S m P M, J t L S m = some r → y_G dn nb ph L S m P M → JR t P (y_eL L) (S.map y_eb) M)
    (hX : ∀ M, y_RL dn nb r.2 M → XR ph r.1 M) (hd' : y_DN dn nb) : ∀ (is : List z_In) (nx : Nat) (L : y_BL) (S : List y_Bv) (m : y_m) (P : z_P) (M : z_M), y_xb sp ph rz hd C J is nx L S m = some r → y_G dn nb ph L S m P M → z_blk sp rz hd CR JR XR is nx P (y_eL L) (S.map y_eb) M
  | [], nx, L, S, m, P, M, h, hg => hJ _ _ _ _ _ _ h hg
  | i :: is, nx, L, S, m, P, M, h, hg => y_x1_ok (kR := fun P L S M => z_blk sp rz hd CR JR XR is nx P L S M) hC hJ (fun L S m P M h hg => y_xb_ok hC hJ hX hd' is nx L S m P M h hg) hX hd' h hg
end ZOk2
theorem y_Rf_ok {dn : Nat → Nat → Nat → Prop} {nb : Nat} {sp : Nat → Nat} {ph : Bool} {md : z_Md} {C : Nat → List y_Bv → y_m → y_Rs} {CR : Bool → Nat → List z_Av → z_M → Bool → z_Ot → z_M → Prop} {XR : Bool → z_Ot → z_M → Prop} {r : z_Ot × y_m}
    (hC : ∀ j As m M o m1, C j As m = some (o, m1) → (∀ v ∈ As, y_okv dn v) → y_RL dn nb m M → ∃ M1, CR ph j (As.map y_eb) M ph o M1 ∧ y_RL dn nb m1 M1)
    (hX : ∀ M, y_RL dn nb r.2 M → XR ph r.1 M) (hd' : y_DN dn nb) : ∀ (n t : Nat) (L : y_BL) (S : List y_Bv) (m : y_m) (P : z_P) (M : z_M), y_Rf sp ph md C n t L S m = some r → y_G dn nb ph L S m P M → z_run sp md.1 md.2.1 CR md.2.2.1 XR n t P (y_eL L) (S.map y_eb) M := by
  intro n
  induction n with
  | zero => intro t L S m P M h; cases h
  | succ n ih =>
    intro t L S m P M h hg
    have h' : (match md.2.2.1 t with
      | none => none
      | some b => y_xb sp ph md.1 md.2.1 C (fun t' L' S' m' => y_Rf sp ph md C n t' (y_mkt md t' L') S' m') b.2.1 b.2.2 (y_mk b.1 L) S m) = some r := h
    cases hb : md.2.2.1 t with
    | none => rw [hb] at h'; cases h'
    | some b =>
      rw [hb] at h'
      dsimp only at h'
      refine ⟨b, P, hb, Or.inl rfl, ?_⟩
      rw [← y_eL_mk]
      refine y_xb_ok hC (fun t L S m P M h hg => ?_) hX hd' _ _ _ _ _ _ _ h' (y_G_mk hg)
      have h2 := ih _ _ _ _ _ _ h (y_G_mkt hg)
      cases n with
      | zero => cases h
      | succ n =>
        obtain ⟨b', P', e1, e2, e3⟩ := h2
        refine ⟨b', P', e1, e2, ?_⟩
        have e4 : z_msk b'.1 (y_eL (y_mkt md t L)) = z_msk b'.1 (y_eL L) := by
          have : y_mkt md t L = y_mk b'.1 L := by unfold y_mkt; rw [e1]
          rw [this, ← y_eL_mk, ← y_eL_mk, y_mk_mk]
        rw [e4] at e3
        exact e3
theorem y_V_ok {dn : Nat → Nat → Nat → Prop} {nb : Nat} {sp : Nat → Nat} {ph : Bool} (hd' : y_DN dn nb) : ∀ (d j : Nat) (As : List y_Bv) (m : y_m) (M : z_M) (o : z_Ot) (m1 : y_m), y_V sp ph d j As m = some (o, m1) → (∀ v ∈ As, y_okv dn v) → y_RL dn nb m M → ∃ M1, z_Run sp z_mt d ph j (As.map y_eb) M ph o M1 ∧ y_RL dn nb m1 M1 := by
  intro d
  induction d with
  | zero => intro j As m M o m1 h; cases h
  | succ d ih =>
    intro j As m M o m1 h hA hr
    have h' : (match Nat.ble 900 j with
      | true => y_prm j As m
      | false => y_bb2 (Nat.ble (y_cs As) (z_mt j).2.2.2) (y_Rz sp ph (z_mt j) (y_V sp ph d) 0 (y_mkt (z_mt j) 0 (y_en (z_mt j).2.2.2 As)) [] m)) = some (o, m1) := h
    cases hj : Nat.ble 900 j with
    | true =>
      rw [hj] at h'
      dsimp only at h'
      unfold y_prm at h'
      split at h'
      · rename_i n k
        obtain ⟨h1, h2⟩ := y_bb2_inv h'
        cases h2
        exact ⟨M, Or.inl ⟨Or.inl ⟨rfl, k, Nat.lt_succ_of_le (Nat.le_of_ble_eq_true h1), rfl, rfl⟩, rfl, rfl⟩, hr⟩
      · rename_i n k i
        obtain ⟨h1, h2⟩ := y_bb2_inv h'
        obtain ⟨h3, h2⟩ := y_g_inv h2
        cases h2
        refine ⟨M, Or.inl ⟨Or.inr ⟨rfl, k, i.toNat, Nat.lt_succ_of_le (Nat.le_of_ble_eq_true h1), by omega, ?_, rfl⟩, rfl, rfl⟩, hr⟩
        rw [Int.toNat_of_nonneg h3.1]
        rfl
      · cases h'
    | false =>
      rw [hj] at h'
      dsimp only at h'
      obtain ⟨h1, h2⟩ := y_bb2_inv h'
      obtain ⟨n, hn⟩ := y_lim_inv h2
      have hlt : j < 900 := by
        rcases Nat.lt_or_ge j 900 with hh | hh
        · exact hh
        · rw [Nat.ble_eq_true_of_le hh] at hj; cases hj
      have hG : y_G dn nb ph (y_en (z_mt j).2.2.2 As) [] m (ph, 0) M := by
        refine ⟨fun v hv => (hA v (y_en_mem hv)).1, fun v hv => (by cases hv), hr, rfl, fun v n hv hn => ?_⟩
        rcases hv with hv | hv
        · rw [(hA v (y_en_mem hv)).2] at hn; cases hn
        · cases hv
      have hrun := y_Rf_ok (CR := z_Run sp z_mt d) (XR := fun ph' o' M' => ph' = ph ∧ o' = o ∧ y_RL dn nb m1 M') (r := (o, m1)) (fun j As m M o m1 h hA hr => ih j As m M o m1 h hA hr) (fun M hM => ⟨rfl, rfl, hM⟩) hd' n 0 _ _ _ (ph, 0) M hn (y_G_mkt hG)
      obtain ⟨ph1, o1, M1, ⟨rfl, rfl, hM1⟩, g⟩ := z_run_res n _ _ _ _ _ hrun
      refine ⟨M1, Or.inr ⟨hlt, by rw [y_cs_sum]; exact Nat.le_of_ble_eq_true h1, n, ?_⟩, hM1⟩
      have h3 := g (fun ph' o' M' => ph' = ph1 ∧ o' = o1 ∧ M' = M1) ⟨rfl, rfl, rfl⟩
      rw [← y_eL_en]
      cases n with
      | zero => cases hn
      | succ n =>
        obtain ⟨b', P', e1, e2, e3⟩ := h3
        refine ⟨b', P', e1, e2, ?_⟩
        have e4 : z_msk b'.1 (y_eL (y_mkt (z_mt j) 0 (y_en (z_mt j).2.2.2 As))) = z_msk b'.1 (y_eL (y_en (z_mt j).2.2.2 As)) := by
          have : y_mkt (z_mt j) 0 (y_en (z_mt j).2.2.2 As) = y_mk b'.1 (y_en (z_mt j).2.2.2 As) := by unfold y_mkt; rw [e1]
          rw [this, ← y_eL_mk, ← y_eL_mk, y_mk_mk]
        rw [e4] at e3
        exact e3
