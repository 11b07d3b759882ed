/-! ===== the reference's world is made ===== -/
def k_MN (s : Nat) (R : Nat → Nat → Option Nat) (I J : Nat → Nat → Int) : z_M := (50, s + 47, z_row R 49 (fun _ => none), z_row I 49 (fun _ => 0), J)
def k_RB (R : Nat → Nat → Option Nat) : Nat → Nat → Option Nat := z_up (z_up (z_up (z_up (z_up (z_up (z_up (z_up (z_up (z_up (z_up (z_up (z_up (z_up (z_up (z_row (z_up (z_row (z_up (z_up (z_up (z_up (z_up (z_up (z_row (z_up (z_row (z_up (z_row (z_up (z_up (z_up (z_up (z_up (z_row R 49 (fun _ => none)) 49 8 (some 50)) 49 9 (some 51)) 49 10 (some 52)) 49 11 (some 53)) 49 12 (some 54)) 55 (fun j => if j < 6 then some (55 + 1 + j) else none)) 49 18 (some 55)) 62 (fun j => if j < 4 then some (62 + 1 + j) else none)) 49 19 (some 62)) 67 (fun j => if j < 3 then some (67 + 1 + j) else none)) 49 20 (some 67)) 49 21 (some 71)) 49 22 (some 72)) 49 23 (some 73)) 49 24 (some 74)) 49 25 (some 75)) 76 (fun j => if j < 6 then some (76 + 1 + j) else none)) 49 26 (some 76)) 83 (fun j => if j < 6 then some (83 + 1 + j) else none)) 49 27 (some 83)) 49 28 (some 90)) 49 29 (some 91)) 49 30 (some 92)) 49 31 (some 93)) 49 32 (some 94)) 49 34 (some 95)) 49 35 (some 96)) 49 36 (some 97)) 49 37 (some 98)) 49 38 (some 99)) 49 39 (some 100)) 49 40 (some 101)) 49 41 (some 102)) 49 44 (some 103)
def k_IB (I : Nat → Nat → Int) : Nat → Nat → Int := z_row (z_row (z_row (z_row (z_row (z_row (z_row (z_row (z_row ((fun a j => if 83 < a ∧ a ≤ 89 then 0 else ((fun a j => if 76 < a ∧ a ≤ 82 then 0 else (z_row (z_row (z_row ((fun a j => if 67 < a ∧ a ≤ 70 then 0 else ((fun a j => if 62 < a ∧ a ≤ 66 then 0 else ((fun a j => if 55 < a ∧ a ≤ 61 then 0 else (z_row (z_row (z_row (z_row (z_row (z_up (z_row I 49 (fun _ => 0)) 49 3 (-1)) 50 (fun _ => 0)) 51 (fun _ => 0)) 52 (fun _ => 0)) 53 (fun _ => 0)) 54 (fun _ => 0)) a j)) a j)) a j)) 73 (fun _ => 0)) 74 (fun _ => 0)) 75 (fun _ => 0)) a j)) a j)) 90 (fun _ => 0)) 91 (fun _ => 0)) 92 (fun _ => 0)) 94 (fun _ => 0)) 97 (fun _ => 0)) 98 (fun _ => 0)) 101 (fun _ => 0)) 102 (fun _ => 0)) 103 (fun _ => 0)
def k_JB (J : Nat → Nat → Int) : Nat → Nat → Int := z_row (z_row (z_row (z_row (z_row (z_row (z_row (J) 71 (fun _ => 0)) 72 (fun _ => 0)) 93 (fun _ => 0)) 95 (fun _ => 0)) 96 (fun _ => 0)) 99 (fun _ => 0)) 100 (fun _ => 0)
def k_MB (s : Nat) (R : Nat → Nat → Option Nat) (I J : Nat → Nat → Int) : z_M := (104, s + 47 + 400 + 7 + 7 + 12 + 12 + 6 + 12 + 4 + 52 + 3 + 237 + 6 + 6 + 6 + 6 + 6 + 6 + 1368 + 6 + 1368 + 476 + 476 + 6 + 228 + 12 + 98304 + 98304 + 12 + 12 + 196608 + 4096 + 12 + 12 + 4, k_RB R, k_IB I, k_JB J)
section Ctor2
variable {s : Nat} {R : Nat → Nat → Option Nat} {I J : Nat → Nat → Int}
set_option maxRecDepth 100000 in
set_option maxHeartbeats 4000000 in
theorem k_B_eq : k_ru z_md_176 (k_cl 30) 40 0 (z_ent 1 [z_r (some 49)]) [] (k_MN s R I J) = some ([(.invokevirtual 106, 265, 177, 0, 4283), (.aload_n 0, 268, 0, 0, 0), (.invokevirtual 109, 269, 194, 0, 4299), (.return_, 272, 0, 0, 0)], 273, [some (z_r (some 49))], [z_r (some 49)], k_MB s R I J) := rfl
def k_I7 (I : Nat → Nat → Int) : Nat → Nat → Int := z_up (z_up (z_up (z_up (z_up (z_up (z_up (z_row (k_IB I) 104 (fun _ => 0)) 104 0 6) 104 1 6) 104 2 30) 104 3 20) 104 4 0) 104 5 9999) 104 6 0
def k_M7 (s : Nat) (R : Nat → Nat → Option Nat) (I J : Nat → Nat → Int) : z_M := (105, s + 47 + 400 + 7 + 7 + 12 + 12 + 6 + 12 + 4 + 52 + 3 + 237 + 6 + 6 + 6 + 6 + 6 + 6 + 1368 + 6 + 1368 + 476 + 476 + 6 + 228 + 12 + 98304 + 98304 + 12 + 12 + 196608 + 4096 + 12 + 12 + 4 + 7, k_RB R, k_I7 I, k_JB J)
def k_b0 : List z_In := [(.bipush 7, 0, 0, 0, 0), (.newarray .int, 2, 0, 0, 0), (.dup, 4, 0, 0, 0), (.iconst 0, 5, 0, 0, 0), (.bipush 6, 6, 0, 0, 0), (.iastore, 8, 0, 0, 0), (.dup, 9, 0, 0, 0), (.iconst 1, 10, 0, 0, 0), (.bipush 6, 11, 0, 0, 0), (.iastore, 13, 0, 0, 0), (.dup, 14, 0, 0, 0), (.iconst 2, 15, 0, 0, 0), (.bipush 30, 16, 0, 0, 0), (.iastore, 18, 0, 0, 0), (.dup, 19, 0, 0, 0), (.iconst 3, 20, 0, 0, 0), (.bipush 20, 21, 0, 0, 0), (.iastore, 23, 0, 0, 0), (.dup, 24, 0, 0, 0), (.iconst 4, 25, 0, 0, 0), (.iconst 0, 26, 0, 0, 0), (.iastore, 27, 0, 0, 0), (.dup, 28, 0, 0, 0), (.iconst 5, 29, 0, 0, 0), (.sipush 9999, 30, 0, 0, 0), (.iastore, 33, 0, 0, 0), (.dup, 34, 0, 0, 0), (.bipush 6, 35, 0, 0, 0), (.iconst 0, 37, 0, 0, 0), (.iastore, 38, 0, 0, 0), (.astore_n 1, 39, 0, 0, 0), (.iconst 0, 40, 0, 0, 0), (.istore_n 2, 41, 0, 0, 0)]
def k_b42 : List z_In := [(.iload_n 2, 42, 0, 0, 0), (.bipush 7, 43, 0, 0, 0), (.if_icmp .ge 18, 45, 0, 0, 0), (.aload_n 0, 48, 0, 0, 0), (.getfield 17, 49, 11, 9, 94), (.iload_n 2, 52, 0, 0, 0), (.aload_n 1, 53, 0, 0, 0), (.iload_n 2, 54, 0, 0, 0), (.iaload, 55, 0, 0, 0), (.iastore, 56, 0, 0, 0), (.iinc 2 1, 57, 0, 0, 0), (.goto (-18), 60, 0, 0, 0)]
set_option maxRecDepth 100000 in
set_option maxHeartbeats 4000000 in
theorem k_C0_eq : k_xs (k_cl 29) 42 k_b0 [some (z_r (some 49)), none, none] [] (k_MB s R I J) = .inr (42, [some (z_r (some 49)), some (z_r (some 104)), some (z_i 0)], [], k_M7 s R I J) := rfl
def k_cp (M : z_M) : Nat → Nat → z_M
  | _, 0 => M
  | x, k + 1 => k_cp (z_setI M 51 x (z_I M 104 x)) (x + 1) k
theorem k_cp_n : ∀ (k x : Nat) (M : z_M), z_n (k_cp M x k) = z_n M ∧ z_s (k_cp M x k) = z_s M ∧ z_R (k_cp M x k) = z_R M ∧ z_J (k_cp M x k) = z_J M ∧ (∀ a j, a ≠ 51 → z_I (k_cp M x k) a j = z_I M a j) ∧ (∀ j, j < x → z_I (k_cp M x k) 51 j = z_I M 51 j) ∧ ∀ j, x ≤ j → j < x + k → z_I (k_cp M x k) 51 j = z_I M 104 j
  | 0, x, M => ⟨rfl, rfl, rfl, rfl, fun _ _ _ => rfl, fun _ _ => rfl, fun j h1 h2 => absurd h2 (by omega)⟩
  | k + 1, x, M => by
    obtain ⟨h1, h2, h3, h4, h5, h6, h7⟩ := k_cp_n k (x + 1) (z_setI M 51 x (z_I M 104 x))
    have e : ∀ a j, z_I (z_setI M 51 x (z_I M 104 x)) a j = if a = 51 ∧ j = x then z_I M 104 x else z_I M a j := fun a j => rfl
    refine ⟨h1, h2, h3, h4, fun a j ha => ?_, fun j hj => ?_, fun j g1 g2 => ?_⟩
    · rw [k_cp, h5 a j ha, e, if_neg (fun q => ha q.1)]
    · rw [k_cp, h6 j (by omega), e, if_neg (by omega)]
    · rw [k_cp]
      by_cases c : j = x
      · subst c
        rw [h6 j (by omega), e, if_pos ⟨rfl, rfl⟩]
      · rw [h7 j (by omega) (by omega), e, if_neg (by omega)]
variable {sp : Nat → Nat} {rz : Bool} {hd : List (Nat × Nat)} {C : Bool → Nat → List z_Av → z_M → Bool → z_Ot → z_M → Prop} {X : Bool → z_Ot → z_M → Prop}
theorem k_kd {M : z_M} {a : Nat} (hn : z_n M = 105) (ha : a < 105) : z_kd (false, 0) M a = z_KL.getD a (98, 0) := by
  unfold z_kd
  rw [if_neg (by omega)]
  exact if_pos (show a < z_n M by omega)
theorem k_177l : ∀ (k x : Nat) (M : z_M), x + k = 7 → z_n M = 105 → z_R M 49 9 = some 51 → X false (.inl none) (k_cp M x k) → z_ru sp rz hd C z_md_177.2.2.1 X 42 (false, 0) [some (z_r (some 49)), some (z_r (some 104)), some (z_i (x : Int))] [] M
  | 0, x, M, hx, hn, hR, h => by
    refine z_ru_blk (ms := [true, true, true]) (is := k_b42) (nx := 63) rfl ⟨(x : Int), rfl, ⟨(x : Int), 7, [], rfl, fun _ => ?_, fun q => ?_⟩⟩
    · exact z_ru_blk (ms := [false, false, false]) (is := [(.return_, 63, 0, 0, 0)]) (nx := 64) rfl ⟨rfl, h⟩
    · exact absurd (show z_w 7 ≤ z_w (x : Int) by rw [z_w_id (by omega) (by omega), z_w_id (by omega) (by omega)]; omega) q
  | k + 1, x, M, hx, hn, hR, h => by
    have k49 : z_kd (false, 0) M 49 = (11, 0) := (k_kd hn (by decide)).trans rfl
    have k51 : z_kd (false, 0) M 51 = (100, 7) := (k_kd hn (by decide)).trans rfl
    have k104 : z_kd (false, 0) M 104 = (100, 7) := (k_kd hn (by decide)).trans rfl
    have kf : z_fv 11 9 M 49 = z_r (some 51) := by unfold z_fv; rw [if_pos (by decide), hR]
    refine z_ru_blk (ms := [true, true, true]) (is := k_b42) (nx := 63) rfl ⟨(x : Int), rfl, ⟨(x : Int), 7, [], rfl, fun q => ?_, fun _ => ?_⟩⟩
    · exact absurd (show z_w 7 ≤ z_w (x : Int) from q) (by rw [z_w_id (by omega) (by omega), z_w_id (by omega) (by omega)]; omega)
    · refine ⟨49, rfl, 49, [], rfl, k49, (x : Int), rfl, 104, rfl, (x : Int), rfl, Or.inl ⟨104, (x : Int), _, 7, rfl, k104, by omega, by omega, ?_⟩⟩
      refine ⟨51, (x : Int), z_I M 104 x, [], 7, congrArg (fun z => z_i (z_I M 104 x) :: z_i (x : Int) :: z :: []) kf, k51, by omega, by omega, ?_⟩
      refine ⟨(x : Int), rfl, ?_⟩
      have ih := k_177l k (x + 1) (z_setI M 51 x (z_I M 104 x)) (by omega) hn hR h
      rw [show ((x + 1 : Nat) : Int) = (x : Int) + 1 by omega] at ih
      rw [Int.toNat_natCast]
      exact ih
def k_MC (s : Nat) (R : Nat → Nat → Option Nat) (I J : Nat → Nat → Int) : z_M := k_cp (k_M7 s R I J) 0 7
theorem k_177 : z_Run sp z_mt 30 false 177 [z_r (some 49)] (k_MB s R I J) false (.inl none) (k_MC s R I J) := by
  have h := z_ru_blk (sp := sp) (rz := z_md_177.1) (hd := z_md_177.2.1) (C := z_Run sp z_mt 29) (cd := z_md_177.2.2.1) (X := fun ph' o' M' => ph' = false ∧ o' = .inl none ∧ M' = k_MC s R I J) (t := 0) (P := (false, 0)) (L := z_ent 3 [z_r (some 49)]) (S := []) (M := k_MB s R I J) (ms := [true, false, false]) (is := k_b0) (nx := 42) rfl (k_xs_ok (fun j As M M1 h => k_cl_ok 29 j As M M1 h) k_b0 _ _ _ (by
    rw [show k_xs (k_cl 29) 42 k_b0 (z_msk [true, false, false] (z_ent 3 [z_r (some 49)])) [] (k_MB s R I J) = _ from k_C0_eq]
    exact k_177l 7 0 (k_M7 s R I J) rfl rfl rfl ⟨rfl, rfl, rfl⟩))
  obtain ⟨n, hn⟩ := h
  exact Or.inr ⟨by decide, by decide, n, hn⟩
end Ctor2
