/-! ===== a block, a run of the machine of numbers makes no cells back ===== -/
section ZLe
variable {sp : Nat → Nat} {rz : Bool} {hd : List (Nat × Nat)} {C : Bool → Nat → List z_Av → z_M → Bool → z_Ot → z_M → Prop} {J : Nat → z_P → z_L → List z_Av → z_M → Prop} {X : Bool → z_Ot → z_M → Prop} {N SL : Nat}
theorem z_call_le {G : List z_Av → Prop} {k : z_P → z_L → List z_Av → z_M → Prop} {j n : Nat} {P : z_P} {L : z_L} {S : List z_Av} {M : z_M} (hC : ∀ ph j As M ph1 o M1, C ph j As M ph1 o M1 → z_n M ≤ z_n M1 ∧ z_s M ≤ z_s M1) (hJ : ∀ t P L S M, J t P L S M → z_n M ≤ N ∧ z_s M ≤ SL) (hX : ∀ ph o M, X ph o M → z_n M ≤ N ∧ z_s M ≤ SL) (hk : ∀ P L S M, k P L S M → z_n M ≤ N ∧ z_s M ≤ SL)
    (h : z_call hd C J X G k j n P L S M) : z_n M ≤ N ∧ z_s M ≤ SL := by
  obtain ⟨As, r, o1, M1, ph, ph1, -, -, -, -, hc, -, hb⟩ := h
  obtain ⟨c1, c2⟩ := hC _ _ _ _ _ _ _ hc
  have : z_n M1 ≤ N ∧ z_s M1 ≤ SL := by
    unfold z_back at hb
    cases o1 with
    | inl v => exact hk _ _ _ _ hb
    | inr e =>
      dsimp only at hb
      cases hh : hd.lookup e with
      | some t => rw [hh] at hb; exact hJ _ _ _ _ _ hb.2
      | none => rw [hh] at hb; exact hX _ _ _ hb.2
  exact ⟨Nat.le_trans c1 this.1, Nat.le_trans c2 this.2⟩
theorem z_le_up {M M' : z_M} (h1 : z_n M ≤ z_n M') (h2 : z_s M ≤ z_s M') (h : z_n M' ≤ N ∧ z_s M' ≤ SL) : z_n M ≤ N ∧ z_s M ≤ SL := ⟨Nat.le_trans h1 h.1, Nat.le_trans h2 h.2⟩
theorem z_one_le {i : z_In} {k : z_P → z_L → List z_Av → z_M → Prop} {P : z_P} {L : z_L} {S : List z_Av} {M : z_M} (hC : ∀ ph j As M ph1 o M1, C ph j As M ph1 o M1 → z_n M ≤ z_n M1 ∧ z_s M ≤ z_s M1) (hJ : ∀ t P L S M, J t P L S M → z_n M ≤ N ∧ z_s M ≤ SL) (hX : ∀ ph o M, X ph o M → z_n M ≤ N ∧ z_s M ≤ SL) (hk : ∀ P L S M, k P L S M → z_n M ≤ N ∧ z_s M ≤ SL)
    (h : z_one sp rz hd C J X i P L S M k) : z_n M ≤ N ∧ z_s M ≤ SL := by
  obtain ⟨ins, pc, a, b, z⟩ := i
  cases ins
  case newarray t =>
    rcases h with ⟨x, r, -, -, -, -, -, -, h⟩ | ⟨x, r, -, -, -, -, -, -, h⟩ | ⟨x, r, -, -, -, -, -, -, -, h⟩ <;> exact z_le_up (Nat.le_succ _) (Nat.le_add_right _ _) (hk _ _ _ _ h)
  case anewarray t =>
    obtain ⟨x, r, -, -, -, -, -, h⟩ := h
    exact z_le_up (Nat.le_succ _) (Nat.le_add_right _ _) (hk _ _ _ _ h)
  case multianewarray t u =>
    obtain ⟨x, y, r, -, -, -, -, -, -, -, h⟩ := h
    exact z_le_up (by show z_n M ≤ z_n M + 1 + x; omega) (by show z_s M ≤ z_s M + x + x * y; omega) (hk _ _ _ _ h)
  case new t =>
    have h' : if a < 50 then _ else _ := h
    by_cases ha : a < 50
    · rw [if_pos ha] at h'
      exact z_le_up (Nat.le_succ _) (Nat.le_add_right _ _) (hk _ _ _ _ h'.2.2.2)
    · rw [if_neg ha] at h'
      exact z_le_up (Nat.le_succ _) (Nat.le_add_right _ _) (hX _ _ _ h'.2.2)
  case invokestatic t =>
    have h' : z_call hd C J X (fun _ => True) k a b P L S M := h
    exact z_call_le hC hJ hX hk h'
  case invokevirtual t =>
    have h' : z_call hd C J X (fun As => (900 ≤ a ∧ ∃ k v, k < 5 ∧ As = z_r (some (500000 + k)) :: v) ∨ a < 900 ∧ ∃ a v, As = z_r (some a) :: v ∧ z_kd P M a = (z.toNat % 16, 0)) k a (b + 1) P L S M := h
    exact z_call_le hC hJ hX hk h'
  case invokespecial t =>
    have h' : if a = 999 then _ else _ := h
    by_cases ha : a = 999
    · rw [if_pos ha] at h'
      obtain ⟨_, _, -, -, h'⟩ := h'
      exact hk _ _ _ _ h'
    · rw [if_neg ha] at h'
      exact z_call_le hC (fun _ _ _ _ _ q => q.elim) (fun _ _ _ q => q.elim) hk h'
  case putfield t =>
    rcases h with ⟨_, _, _, -, -, -, h⟩ | ⟨_, _, _, -, -, -, -, h⟩
    · have h9 := hk _ _ _ _ h
      exact h9
    · have h9 := hk _ _ _ _ h
      exact h9
  case if_icmp c off =>
    obtain ⟨x, y, r, -, h1, h2⟩ := h
    by_cases hc : z_cmp c x y
    · exact hJ _ _ _ _ _ (h1 hc)
    · exact hk _ _ _ _ (h2 hc)
  case ifCond c off =>
    obtain ⟨x, r, -, h1, h2⟩ := h
    by_cases hc : z_cmp c x 0
    · exact hJ _ _ _ _ _ (h1 hc)
    · exact hk _ _ _ _ (h2 hc)
  case tableswitch d lo hi offs =>
    obtain ⟨x, r, -, h1, h2⟩ := h
    by_cases hc : z_w x < lo ∨ hi < z_w x
    · exact hJ _ _ _ _ _ (h1 hc)
    · obtain ⟨off, -, h3⟩ := h2 (fun q => hc (Or.inl q)) (fun q => hc (Or.inr q))
      exact hJ _ _ _ _ _ h3
  case ldc t =>
    have h' : if a = 1 then _ else _ := h
    by_cases ha : a = 1
    · rw [if_pos ha] at h'
      exact hk _ _ _ _ h'.2
    · rw [if_neg ha] at h'
      exact hk _ _ _ _ h'
  case goto off => exact hJ _ _ _ _ _ h
  case ifnonnull off =>
    obtain ⟨x, r, -, h⟩ := h
    exact hJ _ _ _ _ _ h
  case ireturn =>
    obtain ⟨x, -, -, h⟩ := h
    exact hX _ _ _ h
  case lreturn =>
    obtain ⟨x, -, h⟩ := h
    exact hX _ _ _ h
  case return_ => exact hX _ _ _ h.2
  case iastore =>
    obtain ⟨_, _, _, _, _, -, -, -, -, h⟩ := h
    have h9 := hk _ _ _ _ h
    exact h9
  case lastore =>
    obtain ⟨_, _, _, _, _, -, -, -, -, h⟩ := h
    have h9 := hk _ _ _ _ h
    exact h9
  case aastore =>
    obtain ⟨_, _, _, _, _, -, -, -, -, -, -, h⟩ := h
    have h9 := hk _ _ _ _ h
    exact h9
  case iaload =>
    rcases h with ⟨_, _, _, _, -, -, -, -, h⟩ | ⟨_, _, -, -, -, -, h⟩ <;> exact hk _ _ _ _ h
  case arraylength =>
    rcases h with ⟨_, _, _, _, -, -, -, -, h⟩ | ⟨_, -, h⟩ <;> exact hk _ _ _ _ h
  all_goals first
    | exact (h : False).elim
    | exact hk _ _ _ _ h
    | (obtain ⟨_, -, h⟩ := h; exact hk _ _ _ _ h)
    | (obtain ⟨_, _, -, h⟩ := h; exact hk _ _ _ _ h)
    | (obtain ⟨_, _, -, -, h⟩ := h; exact hk _ _ _ _ h)
    | (obtain ⟨_, _, _, -, h⟩ := h; exact hk _ _ _ _ h)
    | (obtain ⟨_, _, _, -, -, h⟩ := h; exact hk _ _ _ _ h)
    | (obtain ⟨_, _, _, -, -, -, h⟩ := h; exact hk _ _ _ _ h)
    | (obtain ⟨_, _, _, _, -, -, -, h⟩ := h; exact hk _ _ _ _ h)
    | (obtain ⟨_, _, _, _, -, -, -, -, h⟩ := h; exact hk _ _ _ _ h)
    | (obtain ⟨_, _, _, _, _, -, -, -, -, -, h⟩ := h; exact hk _ _ _ _ h)
    | (obtain ⟨_, _, _, _, -, -, -, -, -, h⟩ := h; exact hk _ _ _ _ h)
theorem z_blk_le {is : List z_In} (hC : ∀ ph j As M ph1 o M1, C ph j As M ph1 o M1 → z_n M ≤ z_n M1 ∧ z_s M ≤ z_s M1) (hJ : ∀ t P L S M, J t P L S M → z_n M ≤ N ∧ z_s M ≤ SL) (hX : ∀ ph o M, X ph o M → z_n M ≤ N ∧ z_s M ≤ SL) :
    ∀ {nx : Nat} {P : z_P} {L : z_L} {S : List z_Av} {M : z_M}, z_blk sp rz hd C J X is nx P L S M → z_n M ≤ N ∧ z_s M ≤ SL := by
  induction is with
  | nil => intro nx P L S M h; exact hJ _ _ _ _ _ h
  | cons i is ih => intro nx P L S M h; exact z_one_le hC hJ hX (fun P L S M h => ih h) h
theorem z_run_le {cd : z_Cd} (hC : ∀ ph j As M ph1 o M1, C ph j As M ph1 o M1 → z_n M ≤ z_n M1 ∧ z_s M ≤ z_s M1) (hX : ∀ ph o M, X ph o M → z_n M ≤ N ∧ z_s M ≤ SL) :
    ∀ (n t : Nat) (P : z_P) (L : z_L) (S : List z_Av) (M : z_M), z_run sp rz hd C cd X n t P L S M → z_n M ≤ N ∧ z_s M ≤ SL := by
  intro n
  induction n with
  | zero => intro t P L S M h; exact h.elim
  | succ n ih =>
    intro t P L S M h
    obtain ⟨b, P', -, -, hb⟩ := h
    exact z_blk_le hC (fun t P L S M h => ih t P L S M h) hX hb
end ZLe
theorem z_Run_le (sp : Nat → Nat) (mt : Nat → z_Md) : ∀ (d : Nat) (ph : Bool) (j : Nat) (As : List z_Av) (M : z_M) (ph1 : Bool) (o : z_Ot) (M1 : z_M), z_Run sp mt d ph j As M ph1 o M1 → z_n M ≤ z_n M1 ∧ z_s M ≤ z_s M1 := by
  intro d
  induction d with
  | zero => intro ph j As M ph1 o M1 h; exact h.elim
  | succ d ih =>
    intro ph j As M ph1 o M1 h
    rcases h with ⟨-, -, rfl⟩ | ⟨-, -, n, h⟩
    · exact ⟨Nat.le_refl _, Nat.le_refl _⟩
    · exact z_run_le ih (fun ph o M h => by rw [h.2.2]; exact ⟨Nat.le_refl _, Nat.le_refl _⟩) n 0 _ _ _ _ h
