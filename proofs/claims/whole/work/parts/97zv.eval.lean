/-! ===== the making of the world: straight text, run as a function ===== -/
abbrev k_St : Type := z_L × List z_Av × z_M
abbrev k_Rz : Type := k_St ⊕ (Nat × k_St)
def k_lr (L : z_L) (n : Nat) : Option Nat := match L[n]? with
  | some (some (.inr (.inr (some x)))) => some x
  | _ => none
def k_li (L : z_L) (n : Nat) : Option Int := match L[n]? with
  | some (some (.inl x)) => some x
  | _ => none
def k_ar (S : List z_Av) : Option (Nat × List z_Av) := match S with
  | .inr (.inr (some x)) :: r => some (x, r)
  | _ => none
def k_ai (S : List z_Av) : Option (Int × List z_Av) := match S with
  | .inl x :: r => some (x, r)
  | _ => none
def k_go {α : Type} (x : Option α) (f : α → Option k_Rz) : Option k_Rz := match x with
  | some a => f a
  | none => none
def k_if (p : Prop) [Decidable p] (x : Option k_Rz) : Option k_Rz := if p then x else none
abbrev k_on (L : z_L) (S : List z_Av) (M : z_M) : Option k_Rz := some (.inl (L, S, M))
def k_in (cl : Nat → List z_Av → z_M → Option z_M) (i : z_In) (L : z_L) (S : List z_Av) (M : z_M) : Option k_Rz := match i.1 with
  | .iconst n => k_on L (z_i n :: S) M
  | .bipush n => k_on L (z_i n :: S) M
  | .sipush n => k_on L (z_i n :: S) M
  | .ldc _ => k_if (¬ i.2.2.1 = 1) (k_on L (z_i i.2.2.2.2 :: S) M)
  | .aload_n n => k_go (k_lr L n) fun x => k_on L (z_r (some x) :: S) M
  | .iload_n n => k_go (k_li L n) fun x => k_on L (z_i x :: S) M
  | .dup => (match S with
    | v :: r => k_if (z_c1 v = true) (k_on L (v :: v :: r) M)
    | [] => none)
  | .istore n => k_go (k_ai S) fun q => k_if (n < L.length) (k_on (z_st1 L n (z_i q.1)) q.2 M)
  | .istore_n n => k_go (k_ai S) fun q => k_if ((n : Nat) < L.length) (k_on (z_st1 L n (z_i q.1)) q.2 M)
  | .astore_n n => k_go (k_ar S) fun q => k_if ((n : Nat) < L.length) (k_on (z_st1 L n (z_r (some q.1))) q.2 M)
  | .iinc n d => k_go (k_li L n) fun x => k_on (z_st1 L n (z_i (x + d))) S M
  | .goto off => some (.inr (z_tg i off, L, S, M))
  | .if_icmp c off => k_go (k_ai S) fun q => k_go (k_ai q.2) fun q2 => @ite _ (z_cmp c q2.1 q.1) (y_cD c q2.1 q.1) (some (.inr (z_tg i off, L, q2.2, M))) (k_on L q2.2 M)
  | .new _ => k_if (i.2.2.1 < 50 ∧ z_n M < z_KL.length ∧ z_KL.getD (z_n M) (98, 0) = (i.2.2.1, 0)) (k_on L (z_r (some (z_n M)) :: S) (z_n M + 1, z_s M + z_FN i.2.2.1, z_row (z_R M) (z_n M) (fun _ => none), z_row (z_I M) (z_n M) (fun _ => 0), z_J M))
  | .newarray t => (match t with
    | .int => k_go (k_ai S) fun q => k_if (0 ≤ q.1 ∧ q.1 ≤ 1000000 ∧ z_n M < z_KL.length ∧ z_KL.getD (z_n M) (98, 0) = (100, q.1.toNat)) (k_on L (z_r (some (z_n M)) :: q.2) (z_n M + 1, z_s M + q.1.toNat, z_R M, z_row (z_I M) (z_n M) (fun _ => 0), z_J M))
    | .long => k_go (k_ai S) fun q => k_if (0 ≤ q.1 ∧ q.1 ≤ 1000000 ∧ z_n M < z_KL.length ∧ z_KL.getD (z_n M) (98, 0) = (101, q.1.toNat)) (k_on L (z_r (some (z_n M)) :: q.2) (z_n M + 1, z_s M + q.1.toNat, z_R M, z_I M, z_row (z_J M) (z_n M) (fun _ => 0)))
    | _ => none)
  | .anewarray _ => k_go (k_ai S) fun q => k_if (0 ≤ q.1 ∧ q.1 ≤ 1000000 ∧ z_n M < z_KL.length ∧ z_KL.getD (z_n M) (98, 0) = (103, q.1.toNat)) (k_on L (z_r (some (z_n M)) :: q.2) (z_n M + 1, z_s M + q.1.toNat, z_row (z_R M) (z_n M) (fun _ => none), z_I M, z_J M))
  | .multianewarray _ _ => k_go (k_ai S) fun q => k_go (k_ai q.2) fun q2 => k_if (0 ≤ q.1 ∧ q.1 ≤ 1000 ∧ 0 ≤ q2.1 ∧ q2.1 ≤ 1000 ∧ z_n M + q2.1.toNat < z_KL.length ∧ z_KL.getD (z_n M) (98, 0) = (102, q2.1.toNat) ∧ (∀ j, j < q2.1.toNat → z_KL.getD (z_n M + 1 + j) (98, 0) = (100, q.1.toNat)))
      (k_on L (z_r (some (z_n M)) :: q2.2) (z_n M + 1 + q2.1.toNat, z_s M + q2.1.toNat + q2.1.toNat * q.1.toNat, z_row (z_R M) (z_n M) (fun j => if j < q2.1.toNat then some (z_n M + 1 + j) else none), (fun a j => if z_n M < a ∧ a ≤ z_n M + q2.1.toNat then 0 else z_I M a j), z_J M))
  | .putfield _ => (match S with
    | .inl x :: r => k_go (k_ar r) fun q => k_if (z_kd (false, 0) M q.1 = (i.2.2.1, 0) ∧ (z_FT i.2.2.1 i.2.2.2.1 = 1 ∨ (z_FT i.2.2.1 i.2.2.2.1 = 2 ∧ (x = 0 ∨ x = 1)))) (k_on L q.2 (z_setI M q.1 i.2.2.2.1 x))
    | .inr (.inr (some b)) :: r => k_go (k_ar r) fun q => k_if (z_kd (false, 0) M q.1 = (i.2.2.1, 0) ∧ z_FT i.2.2.1 i.2.2.2.1 = 0 ∧ b < 300000) (k_on L q.2 (z_setR M q.1 i.2.2.2.1 (some b)))
    | _ => none)
  | .getfield _ => k_go (k_ar S) fun q => k_if (z_kd (false, 0) M q.1 = (i.2.2.1, 0)) (k_on L (z_fv i.2.2.1 i.2.2.2.1 M q.1 :: q.2) M)
  | .arraylength => k_go (k_ar S) fun q => k_if (100 ≤ (z_kd (false, 0) M q.1).1 ∧ (z_kd (false, 0) M q.1).1 ≤ 103) (k_on L (z_i ((z_kd (false, 0) M q.1).2 : Int) :: q.2) M)
  | .iaload => k_go (k_ai S) fun q => k_go (k_ar q.2) fun q2 => k_if ((z_kd (false, 0) M q2.1).1 = 100 ∧ 0 ≤ q.1 ∧ q.1 < ((z_kd (false, 0) M q2.1).2 : Int)) (k_on L (z_i (z_I M q2.1 q.1.toNat) :: q2.2) M)
  | .iastore => k_go (k_ai S) fun v => k_go (k_ai v.2) fun q => k_go (k_ar q.2) fun q2 => k_if ((z_kd (false, 0) M q2.1).1 = 100 ∧ 0 ≤ q.1 ∧ q.1 < ((z_kd (false, 0) M q2.1).2 : Int)) (k_on L q2.2 (z_setI M q2.1 q.1.toNat v.1))
  | .aastore => k_go (k_ar S) fun b => k_go (k_ai b.2) fun q => k_go (k_ar q.2) fun q2 => k_if ((z_kd (false, 0) M q2.1).1 = 103 ∧ z_kd (false, 0) M b.1 = (5, 0) ∧ 0 ≤ q.1 ∧ q.1 < ((z_kd (false, 0) M q2.1).2 : Int) ∧ b.1 < 300000) (k_on L q2.2 (z_setR M q2.1 q.1.toNat (some b.1)))
  | .invokespecial _ => if i.2.2.1 = 999 then k_go (k_ar S) fun q => k_if ((q.2.map z_cat).sum ≤ 8) (k_on L q.2 M) else
      k_if (i.2.2.2.1 + 1 ≤ S.length ∧ (k_ar (S.take (i.2.2.2.1 + 1)).reverse).isSome = true ∧ ((S.drop (i.2.2.2.1 + 1)).map z_cat).sum ≤ 8) (k_go (cl i.2.2.1 (S.take (i.2.2.2.1 + 1)).reverse M) fun M1 => k_on L (S.drop (i.2.2.2.1 + 1)) M1)
  | _ => none
section Eval
variable {α : Type} {sp : Nat → Nat} {rz : Bool} {hd : List (Nat × Nat)} {C : Bool → Nat → List z_Av → z_M → Bool → z_Ot → z_M → Prop} {J : Nat → z_P → z_L → List z_Av → z_M → Prop} {X : Bool → z_Ot → z_M → Prop} {k : z_P → z_L → List z_Av → z_M → Prop} {L L' : z_L} {S S' : List z_Av} {M M' : z_M} {r : k_Rz} {cl : Nat → List z_Av → z_M → Option z_M}
theorem k_lr_ok {n x : Nat} (h : k_lr L n = some x) : L[n]? = some (some (z_r (some x))) := by
  unfold k_lr at h
  split at h
  · cases h; assumption
  · cases h
theorem k_li_ok {n : Nat} {x : Int} (h : k_li L n = some x) : L[n]? = some (some (z_i x)) := by
  unfold k_li at h
  split at h
  · cases h; assumption
  · cases h
theorem k_ar_ok {q : Nat × List z_Av} (h : k_ar S = some q) : S = z_r (some q.1) :: q.2 := by
  unfold k_ar at h
  split at h
  · cases h; rfl
  · cases h
theorem k_ai_ok {q : Int × List z_Av} (h : k_ai S = some q) : S = z_i q.1 :: q.2 := by
  unfold k_ai at h
  split at h
  · cases h; rfl
  · cases h
theorem k_go_ok {x : Option α} {f : α → Option k_Rz} (h : k_go x f = some r) : ∃ a, x = some a ∧ f a = some r := by
  cases x with
  | none => cases h
  | some a => exact ⟨a, rfl, h⟩
theorem k_if_ok {p : Prop} [Decidable p] {x : Option k_Rz} (h : k_if p x = some r) : p ∧ x = some r := by
  unfold k_if at h
  by_cases c : p
  · rw [if_pos c] at h; exact ⟨c, h⟩
  · rw [if_neg c] at h; cases h
def k_af (J : Nat → z_P → z_L → List z_Av → z_M → Prop) (k : z_P → z_L → List z_Av → z_M → Prop) (r : k_Rz) : Prop := match r with
  | .inl q => k (false, 0) q.1 q.2.1 q.2.2
  | .inr q => J q.1 (false, 0) q.2.1 q.2.2.1 q.2.2.2
theorem k_in_ok (hcl : ∀ j As M M1, cl j As M = some M1 → C false j As M false (.inl none) M1) {i : z_In} (h : k_in cl i L S M = some r) (hk : k_af J k r) : z_one sp rz hd C J X i (false, 0) L S M k := by
  obtain ⟨ins, pc, a, b, z⟩ := i
  unfold k_in at h
  cases ins <;> dsimp only at h
  case iconst n => cases h; exact hk
  case bipush n => cases h; exact hk
  case sipush n => cases h; exact hk
  case ldc n =>
    obtain ⟨h1, h2⟩ := k_if_ok h
    cases h2
    show if a = 1 then _ else _
    rw [if_neg h1]
    exact hk
  case aload_n n =>
    obtain ⟨x, h1, h2⟩ := k_go_ok h
    cases h2
    exact ⟨x, k_lr_ok h1, hk⟩
  case iload_n n =>
    obtain ⟨x, h1, h2⟩ := k_go_ok h
    cases h2
    exact ⟨x, k_li_ok h1, hk⟩
  case dup =>
    cases S with
    | nil => cases h
    | cons v S =>
      obtain ⟨h1, h2⟩ := k_if_ok h
      cases h2
      exact ⟨v, S, rfl, h1, hk⟩
  case istore n =>
    obtain ⟨q, h1, h2⟩ := k_go_ok h
    obtain ⟨h3, h4⟩ := k_if_ok h2
    cases h4
    exact ⟨q.1, q.2, k_ai_ok h1, h3, hk⟩
  case istore_n n =>
    obtain ⟨q, h1, h2⟩ := k_go_ok h
    obtain ⟨h3, h4⟩ := k_if_ok h2
    cases h4
    exact ⟨q.1, q.2, k_ai_ok h1, h3, hk⟩
  case astore_n n =>
    obtain ⟨q, h1, h2⟩ := k_go_ok h
    obtain ⟨h3, h4⟩ := k_if_ok h2
    cases h4
    exact ⟨q.1, q.2, k_ar_ok h1, h3, hk⟩
  case iinc n d =>
    obtain ⟨x, h1, h2⟩ := k_go_ok h
    cases h2
    exact ⟨x, k_li_ok h1, hk⟩
  case goto off => cases h; exact hk
  case if_icmp c off =>
    obtain ⟨q, h1, h2⟩ := k_go_ok h
    obtain ⟨q2, h3, h4⟩ := k_go_ok h2
    have e : S = z_i q.1 :: z_i q2.1 :: q2.2 := by rw [k_ai_ok h1, k_ai_ok h3]
    by_cases hc : z_cmp c q2.1 q.1
    · rw [if_pos hc] at h4
      cases h4
      exact ⟨q2.1, q.1, q2.2, e, fun _ => hk, fun w => absurd hc w⟩
    · rw [if_neg hc] at h4
      cases h4
      exact ⟨q2.1, q.1, q2.2, e, fun w => absurd w hc, fun _ => hk⟩
  case new n =>
    obtain ⟨⟨h1, h3, h4⟩, h2⟩ := k_if_ok h
    cases h2
    show if a < 50 then _ else _
    rw [if_pos h1]
    exact ⟨rfl, h3, h4, hk⟩
  case newarray t =>
    cases t <;> dsimp only at h
    case int =>
      obtain ⟨q, h1, h2⟩ := k_go_ok h
      obtain ⟨⟨g1, g2, g3, g4⟩, h4⟩ := k_if_ok h2
      cases h4
      refine Or.inl ⟨q.1.toNat, q.2, ?_, rfl, by omega, g3, rfl, g4, hk⟩
      rw [k_ai_ok h1, Int.toNat_of_nonneg g1]
    case long =>
      obtain ⟨q, h1, h2⟩ := k_go_ok h
      obtain ⟨⟨g1, g2, g3, g4⟩, h4⟩ := k_if_ok h2
      cases h4
      refine Or.inr (Or.inl ⟨q.1.toNat, q.2, ?_, rfl, by omega, g3, rfl, g4, hk⟩)
      rw [k_ai_ok h1, Int.toNat_of_nonneg g1]
    all_goals cases h
  case anewarray n =>
    obtain ⟨q, h1, h2⟩ := k_go_ok h
    obtain ⟨⟨g1, g2, g3, g4⟩, h4⟩ := k_if_ok h2
    cases h4
    refine ⟨q.1.toNat, q.2, ?_, rfl, by omega, g3, g4, hk⟩
    rw [k_ai_ok h1, Int.toNat_of_nonneg g1]
  case multianewarray n n2 =>
    obtain ⟨q, h1, h2⟩ := k_go_ok h
    obtain ⟨q2, h3, h4⟩ := k_go_ok h2
    obtain ⟨⟨g1, g2, g3, g4, g5, g6, g7⟩, h5⟩ := k_if_ok h4
    cases h5
    refine ⟨q2.1.toNat, q.1.toNat, q2.2, ?_, rfl, by omega, by omega, g5, g6, g7, hk⟩
    rw [k_ai_ok h1, k_ai_ok h3, Int.toNat_of_nonneg g1, Int.toNat_of_nonneg g3]
  case putfield n =>
    rcases S with _ | ⟨x | x | _ | o, S⟩
    · cases h
    · obtain ⟨q, h1, h2⟩ := k_go_ok h
      obtain ⟨⟨g1, g2⟩, h4⟩ := k_if_ok h2
      cases h4
      exact Or.inl ⟨q.1, x, q.2, by rw [k_ar_ok h1], g1, g2, hk⟩
    · cases h
    · cases h
    · obtain ⟨q, h1, h2⟩ := k_go_ok h
      obtain ⟨⟨g1, g2, g3⟩, h4⟩ := k_if_ok h2
      cases h4
      exact Or.inr ⟨q.1, o, q.2, by rw [k_ar_ok h1], g1, g2, g3, hk⟩
  case getfield n =>
    obtain ⟨q, h1, h2⟩ := k_go_ok h
    obtain ⟨g1, h4⟩ := k_if_ok h2
    cases h4
    exact ⟨q.1, q.2, k_ar_ok h1, g1, hk⟩
  case arraylength =>
    obtain ⟨q, h1, h2⟩ := k_go_ok h
    obtain ⟨⟨g1, g2⟩, h4⟩ := k_if_ok h2
    cases h4
    exact Or.inl ⟨q.1, q.2, _, _, k_ar_ok h1, rfl, g1, g2, hk⟩
  case iaload =>
    obtain ⟨q, h1, h2⟩ := k_go_ok h
    obtain ⟨q2, h3, h4⟩ := k_go_ok h2
    obtain ⟨⟨g1, g2, g3⟩, h5⟩ := k_if_ok h4
    cases h5
    exact Or.inl ⟨q2.1, q.1, q2.2, (z_kd (false, 0) M q2.1).2, by rw [k_ai_ok h1, k_ar_ok h3], by rw [← g1], g2, g3, hk⟩
  case iastore =>
    obtain ⟨v, h0, h⟩ := k_go_ok h
    obtain ⟨q, h1, h2⟩ := k_go_ok h
    obtain ⟨q2, h3, h4⟩ := k_go_ok h2
    obtain ⟨⟨g1, g2, g3⟩, h5⟩ := k_if_ok h4
    cases h5
    exact ⟨q2.1, q.1, v.1, q2.2, (z_kd (false, 0) M q2.1).2, by rw [k_ai_ok h0, k_ai_ok h1, k_ar_ok h3], by rw [← g1], g2, g3, hk⟩
  case aastore =>
    obtain ⟨v, h0, h⟩ := k_go_ok h
    obtain ⟨q, h1, h2⟩ := k_go_ok h
    obtain ⟨q2, h3, h4⟩ := k_go_ok h2
    obtain ⟨⟨g1, g2, g3, g4, g5⟩, h5⟩ := k_if_ok h4
    cases h5
    exact ⟨q2.1, q.1, v.1, q2.2, (z_kd (false, 0) M q2.1).2, by rw [k_ar_ok h0, k_ai_ok h1, k_ar_ok h3], by rw [← g1], g2, g3, g4, g5, hk⟩
  case invokespecial n =>
    show if a = 999 then _ else _
    by_cases ha : a = 999
    · rw [if_pos ha] at h ⊢
      obtain ⟨q, h1, h2⟩ := k_go_ok h
      obtain ⟨g1, h4⟩ := k_if_ok h2
      cases h4
      exact ⟨q.1, q.2, k_ar_ok h1, g1, hk⟩
    · rw [if_neg ha] at h ⊢
      obtain ⟨⟨g1, g2, g3⟩, h4⟩ := k_if_ok h
      obtain ⟨M1, h5, h6⟩ := k_go_ok h4
      cases h6
      obtain ⟨q, g4⟩ := Option.isSome_iff_exists.mp g2
      have g1' : b + 1 ≤ S.length := g1
      exact ⟨S.take (b + 1), S.drop (b + 1), .inl none, M1, false, false, (List.take_append_drop _ _).symm, by rw [List.length_take]; show min (b + 1) S.length = b + 1; omega, ⟨q.1, q.2, k_ar_ok g4⟩, Or.inl rfl, hcl _ _ _ _ h5, g3, hk⟩
  all_goals cases h
end Eval
/-- a block as far as it goes: stopped ahead of an instruction, or gone on to a place -/
abbrev k_Bz : Type := (List z_In × k_St) ⊕ (Nat × k_St)
def k_xs (cl : Nat → List z_Av → z_M → Option z_M) (nx : Nat) : List z_In → z_L → List z_Av → z_M → k_Bz
  | [], L, S, M => .inr (nx, L, S, M)
  | i :: is, L, S, M => match k_in cl i L S M with
    | some (.inl q) => k_xs cl nx is q.1 q.2.1 q.2.2
    | some (.inr q) => .inr q
    | none => .inl (i :: is, L, S, M)
/-- blocks, until an instruction that is no straight text -/
def k_ru (md : z_Md) (cl : Nat → List z_Av → z_M → Option z_M) : Nat → Nat → z_L → List z_Av → z_M → Option (List z_In × Nat × k_St)
  | 0, _, _, _, _ => none
  | n + 1, t, L, S, M => match md.2.2.1 t with
    | none => none
    | some b => match k_xs cl b.2.2 b.2.1 (z_msk b.1 L) S M with
      | .inl q => some (q.1, b.2.2, q.2)
      | .inr q => k_ru md cl n q.1 q.2.1 q.2.2.1 q.2.2.2
def k_rt : List z_In → Bool
  | i :: _ => (match i.1 with
    | .return_ => true
    | _ => false)
  | [] => false
def k_nd (x : Option (List z_In × Nat × k_St)) : Option z_M := match x with
  | some q => if k_rt q.1 = true ∧ q.2.2.2.1 = [] then some q.2.2.2.2 else none
  | none => none
theorem k_rt_ok {is : List z_In} (h : k_rt is = true) : ∃ a b c z r, is = (.return_, a, b, c, z) :: r := by
  cases is with
  | nil => cases h
  | cons i is =>
    obtain ⟨ins, a, b, c, z⟩ := i
    cases ins
    case return_ => exact ⟨a, b, c, z, is, rfl⟩
    all_goals cases h
/-- a method without an answer -/
def k_cl : Nat → Nat → List z_Av → z_M → Option z_M
  | 0, _, _, _ => none
  | d + 1, j, As, M => if j < 900 ∧ (As.map z_cat).sum ≤ (z_mt j).2.2.2 then k_nd (k_ru (z_mt j) (k_cl d) 40 0 (z_ent (z_mt j).2.2.2 As) [] M) else none
section Eval2
variable {sp : Nat → Nat} {rz : Bool} {hd : List (Nat × Nat)} {C : Bool → Nat → List z_Av → z_M → Bool → z_Ot → z_M → Prop} {X : Bool → z_Ot → z_M → Prop} {L L' : z_L} {S S' : List z_Av} {M M' : z_M} {cl : Nat → List z_Av → z_M → Option z_M}
theorem k_xs_ok {J : Nat → z_P → z_L → List z_Av → z_M → Prop} (hcl : ∀ j As M M1, cl j As M = some M1 → C false j As M false (.inl none) M1) {nx : Nat} : ∀ (is : List z_In) (L : z_L) (S : List z_Av) (M : z_M), (match k_xs cl nx is L S M with
    | .inl q => z_blk sp rz hd C J X q.1 nx (false, 0) q.2.1 q.2.2.1 q.2.2.2
    | .inr q => J q.1 (false, 0) q.2.1 q.2.2.1 q.2.2.2) → z_blk sp rz hd C J X is nx (false, 0) L S M
  | [], L, S, M, h => h
  | i :: is, L, S, M, h => by
    show z_one sp rz hd C J X i (false, 0) L S M (fun P L S M => z_blk sp rz hd C J X is nx P L S M)
    rw [k_xs] at h
    rcases e : k_in cl i L S M with _ | q | q
    · rw [e] at h
      exact h
    · rw [e] at h
      exact k_in_ok hcl e (k_xs_ok hcl is _ _ _ h)
    · rw [e] at h
      exact k_in_ok hcl e h
theorem k_ru_ok (hcl : ∀ j As M M1, cl j As M = some M1 → C false j As M false (.inl none) M1) {md : z_Md} : ∀ (n t : Nat) (L : z_L) (S : List z_Av) (M : z_M) (is : List z_In) (nx : Nat) (L' : z_L) (S' : List z_Av) (M' : z_M), k_ru md cl n t L S M = some (is, nx, L', S', M') → z_blk sp rz hd C (z_ru sp rz hd C md.2.2.1 X) X is nx (false, 0) L' S' M' → z_ru sp rz hd C md.2.2.1 X t (false, 0) L S M
  | 0, _, _, _, _, _, _, _, _, _, h, _ => by cases h
  | n + 1, t, L, S, M, is, nx, L', S', M', h, hb => by
    rw [k_ru] at h
    rcases e : md.2.2.1 t with _ | ⟨ms, ib, nb⟩
    · rw [e] at h; cases h
    · rw [e] at h
      dsimp only at h
      refine z_ru_blk e (k_xs_ok hcl ib _ _ _ ?_)
      rcases e2 : k_xs cl nb ib (z_msk ms L) S M with ⟨i1, L1, S1, M1⟩ | q
      · rw [e2] at h
        simp only [Option.some.injEq, Prod.mk.injEq] at h
        obtain ⟨rfl, rfl, rfl, rfl, rfl⟩ := h
        exact hb
      · rw [e2] at h
        exact k_ru_ok hcl n _ _ _ _ _ _ _ _ _ h hb
theorem k_cl_ok : ∀ (d j : Nat) (As : List z_Av) (M M1 : z_M), k_cl d j As M = some M1 → z_Run sp z_mt d false j As M false (.inl none) M1
  | 0, _, _, _, _, h => by cases h
  | d + 1, j, As, M, M1, h => by
    rw [k_cl] at h
    by_cases c : j < 900 ∧ (As.map z_cat).sum ≤ (z_mt j).2.2.2
    · rw [if_pos c] at h
      rcases e : k_ru (z_mt j) (k_cl d) 40 0 (z_ent (z_mt j).2.2.2 As) [] M with _ | ⟨is, nx, L', S', M2⟩
      · rw [e] at h; cases h
      · rw [e] at h
        have h' : (if k_rt is = true ∧ S' = [] then some M2 else none) = some M1 := h
        by_cases c2 : k_rt is = true ∧ S' = []
        · rw [if_pos c2] at h'
          cases h'
          obtain ⟨a1, a2, a3, a4, r, e3⟩ := k_rt_ok c2.1
          have hr := k_ru_ok (sp := sp) (rz := (z_mt j).1) (hd := (z_mt j).2.1) (C := z_Run sp z_mt d) (X := fun ph' o' M' => ph' = false ∧ o' = .inl none ∧ M' = M1) (fun j As M M1 h => k_cl_ok d j As M M1 h) 40 0 _ _ _ _ _ _ _ _ e (by rw [e3]; exact ⟨c2.2, rfl, rfl, rfl⟩)
          obtain ⟨n, hn⟩ := hr
          exact Or.inr ⟨c.1, c.2, n, hn⟩
        · rw [if_neg c2] at h'
          cases h'
    · rw [if_neg c] at h
      cases h
end Eval2
