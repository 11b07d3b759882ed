/-! ===== runs without fuel: each instruction goes on, jumps, or ends ===== -/
section ZRes
variable {sp : Nat → Nat} {rz : Bool} {hd : List (Nat × Nat)} {C : Bool → Nat → List z_Av → z_M → Bool → z_Ot → z_M → Prop}
def z_res (A : (Nat → z_P → z_L → List z_Av → z_M → Prop) → (Bool → z_Ot → z_M → Prop) → (z_P → z_L → List z_Av → z_M → Prop) → Prop) (J : Nat → z_P → z_L → List z_Av → z_M → Prop) (X : Bool → z_Ot → z_M → Prop) (k : z_P → z_L → List z_Av → z_M → Prop) : Prop :=
  (∃ P L S M, k P L S M ∧ ∀ J' X' k', k' P L S M → A J' X' k') ∨ (∃ t P L S M, J t P L S M ∧ ∀ J' X' k', J' t P L S M → A J' X' k') ∨ (∃ ph o M, X ph o M ∧ ∀ J' X' k', X' ph o M → A J' X' k')
variable {J : Nat → z_P → z_L → List z_Av → z_M → Prop} {X : Bool → z_Ot → z_M → Prop}
theorem z_call_res {G : List z_Av → Prop} {k : z_P → z_L → List z_Av → z_M → Prop} {j n : Nat} {P : z_P} {L : z_L} {S : List z_Av} {M : z_M} (h : z_call hd C J X G k j n P L S M) : z_res (fun J X k => z_call hd C J X G k j n P L S M) J X k := by
  obtain ⟨As, r, o1, M1, ph, ph1, h1, h2, h3, h4, hc, h5, hb⟩ := h
  unfold z_back at hb
  cases o1 with
  | inl v => exact Or.inl ⟨_, _, _, _, hb, fun J' X' k' h => ⟨As, r, .inl v, M1, ph, ph1, h1, h2, h3, h4, hc, h5, h⟩⟩
  | inr e =>
    dsimp only at hb
    cases hh : hd.lookup e with
    | some t =>
      rw [hh] at hb
      exact Or.inr (Or.inl ⟨_, _, _, _, _, hb.2, fun J' X' k' h => ⟨As, r, .inr e, M1, ph, ph1, h1, h2, h3, h4, hc, h5, by unfold z_back; dsimp only; rw [hh]; exact ⟨hb.1, h⟩⟩⟩)
    | none =>
      rw [hh] at hb
      exact Or.inr (Or.inr ⟨_, _, _, hb.2, fun J' X' k' h => ⟨As, r, .inr e, M1, ph, ph1, h1, h2, h3, h4, hc, h5, by unfold z_back; dsimp only; rw [hh]; exact ⟨hb.1, h⟩⟩⟩)
theorem z_one_res {i : z_In} {k : z_P → z_L → List z_Av → z_M → Prop} {P : z_P} {L : z_L} {S : List z_Av} {M : z_M} (h : z_one sp rz hd C J X i P L S M k) : z_res (fun J X k => z_one sp rz hd C J X i P L S M k) J X k := by
  obtain ⟨ins, pc, a, b, z⟩ := i
  cases ins
  case newarray t =>
    rcases h with ⟨x, r, h1, h2, h3, h4, h5, h6, h⟩ | ⟨x, r, h1, h2, h3, h4, h5, h6, h⟩ | ⟨x, r, h1, h2, h3, h4, h5, h6, h7, h⟩
    · exact Or.inl ⟨_, _, _, _, h, fun _ _ _ h => Or.inl ⟨x, r, h1, h2, h3, h4, h5, h6, h⟩⟩
    · exact Or.inl ⟨_, _, _, _, h, fun _ _ _ h => Or.inr (Or.inl ⟨x, r, h1, h2, h3, h4, h5, h6, h⟩)⟩
    · exact Or.inl ⟨_, _, _, _, h, fun _ _ _ h => Or.inr (Or.inr ⟨x, r, h1, h2, h3, h4, h5, h6, h7, h⟩)⟩
  case anewarray t =>
    obtain ⟨x, r, h1, h2, h3, h4, h5, h⟩ := h
    exact Or.inl ⟨_, _, _, _, h, fun _ _ _ h => ⟨x, r, h1, h2, h3, h4, h5, h⟩⟩
  case multianewarray t u =>
    obtain ⟨x, y, r, h1, h2, h3, h4, h5, h6, h7, h⟩ := h
    exact Or.inl ⟨_, _, _, _, h, fun _ _ _ h => ⟨x, y, r, h1, h2, h3, h4, h5, h6, h7, h⟩⟩
  case new t =>
    have h' : if a < 50 then _ else _ := h
    by_cases ha : a < 50
    · rw [if_pos ha] at h'
      obtain ⟨h1, h2, h3, h⟩ := h'
      exact Or.inl ⟨_, _, _, _, h, fun J' X' k' h => by show if a < 50 then _ else _; rw [if_pos ha]; exact ⟨h1, h2, h3, h⟩⟩
    · rw [if_neg ha] at h'
      obtain ⟨h1, h2, h⟩ := h'
      exact Or.inr (Or.inr ⟨_, _, _, h, fun J' X' k' h => by show if a < 50 then _ else _; rw [if_neg ha]; exact ⟨h1, h2, h⟩⟩)
  case invokestatic t =>
    have h' : z_call hd C J X (fun _ => True) k a b P L S M := h
    exact z_call_res h'
  case invokevirtual t =>
    have h' : z_call hd C J X (fun As => (900 ≤ a ∧ ∃ k v, k < 5 ∧ As = z_r (some (500000 + k)) :: v) ∨ a < 900 ∧ ∃ a v, As = z_r (some a) :: v ∧ z_kd P M a = (z.toNat % 16, 0)) k a (b + 1) P L S M := h
    exact z_call_res h'
  case invokespecial t =>
    have h' : if a = 999 then _ else _ := h
    by_cases ha : a = 999
    · rw [if_pos ha] at h'
      obtain ⟨a1, r, h1, h2, h⟩ := h'
      exact Or.inl ⟨_, _, _, _, h, fun J' X' k' h => by show if a = 999 then _ else _; rw [if_pos ha]; exact ⟨a1, r, h1, h2, h⟩⟩
    · rw [if_neg ha] at h'
      rcases z_call_res h' with ⟨_, _, _, _, h, g⟩ | ⟨_, _, _, _, _, h, g⟩ | ⟨_, _, _, h, g⟩
      · exact Or.inl ⟨_, _, _, _, h, fun J' X' k' h => by show if a = 999 then _ else _; rw [if_neg ha]; exact g _ _ _ h⟩
      · exact h.elim
      · exact h.elim
  case putfield t =>
    rcases h with ⟨_, _, _, h1, h2, h3, h⟩ | ⟨_, _, _, h1, h2, h3, h4, h⟩
    · exact Or.inl ⟨_, _, _, _, h, fun _ _ _ h => Or.inl ⟨_, _, _, h1, h2, h3, h⟩⟩
    · exact Or.inl ⟨_, _, _, _, h, fun _ _ _ h => Or.inr ⟨_, _, _, h1, h2, h3, h4, h⟩⟩
  case if_icmp c off =>
    obtain ⟨x, y, r, h0, h1, h2⟩ := h
    by_cases hc : z_cmp c x y
    · exact Or.inr (Or.inl ⟨_, _, _, _, _, h1 hc, fun _ _ _ h => ⟨x, y, r, h0, fun _ => h, fun q => absurd hc q⟩⟩)
    · exact Or.inl ⟨_, _, _, _, h2 hc, fun _ _ _ h => ⟨x, y, r, h0, fun q => absurd q hc, fun _ => h⟩⟩
  case ifCond c off =>
    obtain ⟨x, r, h0, h1, h2⟩ := h
    by_cases hc : z_cmp c x 0
    · exact Or.inr (Or.inl ⟨_, _, _, _, _, h1 hc, fun _ _ _ h => ⟨x, r, h0, fun _ => h, fun q => absurd hc q⟩⟩)
    · exact Or.inl ⟨_, _, _, _, h2 hc, fun _ _ _ h => ⟨x, r, h0, fun q => absurd q hc, fun _ => h⟩⟩
  case tableswitch d lo hi offs =>
    obtain ⟨x, r, h0, h1, h2⟩ := h
    by_cases hc : z_w x < lo ∨ hi < z_w x
    · exact Or.inr (Or.inl ⟨_, _, _, _, _, h1 hc, fun _ _ _ h => ⟨x, r, h0, fun _ => h, fun q1 q2 => (hc.elim q1 q2).elim⟩⟩)
    · obtain ⟨off, h4, h3⟩ := h2 (fun q => hc (Or.inl q)) (fun q => hc (Or.inr q))
      exact Or.inr (Or.inl ⟨_, _, _, _, _, h3, fun _ _ _ h => ⟨x, r, h0, fun q => absurd q hc, fun _ _ => ⟨off, h4, h⟩⟩⟩)
  case ldc t =>
    have h' : if a = 1 then _ else _ := h
    by_cases ha : a = 1
    · rw [if_pos ha] at h'
      exact Or.inl ⟨_, _, _, _, h'.2, fun J' X' k' h => by show if a = 1 then _ else _; rw [if_pos ha]; exact ⟨h'.1, h⟩⟩
    · rw [if_neg ha] at h'
      exact Or.inl ⟨_, _, _, _, h', fun J' X' k' h => by show if a = 1 then _ else _; rw [if_neg ha]; exact h⟩
  case goto off => exact Or.inr (Or.inl ⟨_, _, _, _, _, h, fun _ _ _ h => h⟩)
  case ifnonnull off =>
    obtain ⟨x, r, h0, h⟩ := h
    exact Or.inr (Or.inl ⟨_, _, _, _, _, h, fun _ _ _ h => ⟨x, r, h0, h⟩⟩)
  case ireturn =>
    obtain ⟨x, h0, h1, h⟩ := h
    exact Or.inr (Or.inr ⟨_, _, _, h, fun _ _ _ h => ⟨x, h0, h1, h⟩⟩)
  case lreturn =>
    obtain ⟨x, h0, h⟩ := h
    exact Or.inr (Or.inr ⟨_, _, _, h, fun _ _ _ h => ⟨x, h0, h⟩⟩)
  case return_ => exact Or.inr (Or.inr ⟨_, _, _, h.2, fun _ _ _ g => ⟨h.1, g⟩⟩)
  case iastore =>
    obtain ⟨_, _, _, _, _, h1, h2, h3, h4, h⟩ := h
    exact Or.inl ⟨_, _, _, _, h, fun _ _ _ h => ⟨_, _, _, _, _, h1, h2, h3, h4, h⟩⟩
  case lastore =>
    obtain ⟨_, _, _, _, _, h1, h2, h3, h4, h⟩ := h
    exact Or.inl ⟨_, _, _, _, h, fun _ _ _ h => ⟨_, _, _, _, _, h1, h2, h3, h4, h⟩⟩
  case aastore =>
    obtain ⟨_, _, _, _, _, h1, h2, h3, h4, h5, h6, h⟩ := h
    exact Or.inl ⟨_, _, _, _, h, fun _ _ _ h => ⟨_, _, _, _, _, h1, h2, h3, h4, h5, h6, h⟩⟩
  case iaload =>
    rcases h with ⟨_, _, _, _, h1, h2, h3, h4, h⟩ | ⟨_, _, h1, h2, h3, h4, h⟩
    · exact Or.inl ⟨_, _, _, _, h, fun _ _ _ h => Or.inl ⟨_, _, _, _, h1, h2, h3, h4, h⟩⟩
    · exact Or.inl ⟨_, _, _, _, h, fun _ _ _ h => Or.inr ⟨_, _, h1, h2, h3, h4, h⟩⟩
  case arraylength =>
    rcases h with ⟨_, _, _, _, h1, h2, h3, h4, h⟩ | ⟨_, h1, h⟩
    · exact Or.inl ⟨_, _, _, _, h, fun _ _ _ h => Or.inl ⟨_, _, _, _, h1, h2, h3, h4, h⟩⟩
    · exact Or.inl ⟨_, _, _, _, h, fun _ _ _ h => Or.inr ⟨_, h1, h⟩⟩
  case aaload =>
    obtain ⟨_, _, _, _, _, h1, h2, h3, h4, h5, h⟩ := h
    exact Or.inl ⟨_, _, _, _, h, fun _ _ _ h => ⟨_, _, _, _, _, h1, h2, h3, h4, h5, h⟩⟩
  all_goals first
    | exact (h : False).elim
    | exact Or.inl ⟨_, _, _, _, h, fun _ _ _ h => h⟩
    | (obtain ⟨_, h1, h⟩ := h; exact Or.inl ⟨_, _, _, _, h, fun _ _ _ h => ⟨_, h1, h⟩⟩)
    | (obtain ⟨_, _, h1, h⟩ := h; exact Or.inl ⟨_, _, _, _, h, fun _ _ _ h => ⟨_, _, h1, h⟩⟩)
    | (obtain ⟨_, _, h1, h2, h⟩ := h; exact Or.inl ⟨_, _, _, _, h, fun _ _ _ h => ⟨_, _, h1, h2, h⟩⟩)
    | (obtain ⟨_, _, _, h1, h⟩ := h; exact Or.inl ⟨_, _, _, _, h, fun _ _ _ h => ⟨_, _, _, h1, h⟩⟩)
    | (obtain ⟨_, _, _, h1, h2, h⟩ := h; exact Or.inl ⟨_, _, _, _, h, fun _ _ _ h => ⟨_, _, _, h1, h2, h⟩⟩)
    | (obtain ⟨_, _, _, h1, h2, h3, h⟩ := h; exact Or.inl ⟨_, _, _, _, h, fun _ _ _ h => ⟨_, _, _, h1, h2, h3, h⟩⟩)
    | (obtain ⟨_, _, _, _, h1, h2, h3, h4, h⟩ := h; exact Or.inl ⟨_, _, _, _, h, fun _ _ _ h => ⟨_, _, _, _, h1, h2, h3, h4, h⟩⟩)
theorem z_blk_res : ∀ {is : List z_In} {nx : Nat} {P : z_P} {L : z_L} {S : List z_Av} {M : z_M}, z_blk sp rz hd C J X is nx P L S M →
    (∃ t P1 L1 S1 M1, J t P1 L1 S1 M1 ∧ ∀ J' X', J' t P1 L1 S1 M1 → z_blk sp rz hd C J' X' is nx P L S M) ∨ (∃ ph o M1, X ph o M1 ∧ ∀ J' X', X' ph o M1 → z_blk sp rz hd C J' X' is nx P L S M)
  | [], nx, P, L, S, M, h => Or.inl ⟨_, _, _, _, _, h, fun _ _ h => h⟩
  | i :: is, nx, P, L, S, M, h => by
    have h' : z_one sp rz hd C J X i P L S M (fun P L S M => z_blk sp rz hd C J X is nx P L S M) := h
    rcases z_one_res h' with ⟨P1, L1, S1, M1, h1, g⟩ | ⟨t, P1, L1, S1, M1, h1, g⟩ | ⟨ph, o, M1, h1, g⟩
    · rcases z_blk_res h1 with ⟨t, P2, L2, S2, M2, h2, g2⟩ | ⟨ph, o, M2, h2, g2⟩
      · exact Or.inl ⟨t, P2, L2, S2, M2, h2, fun J' X' q => g J' X' _ (g2 J' X' q)⟩
      · exact Or.inr ⟨ph, o, M2, h2, fun J' X' q => g J' X' _ (g2 J' X' q)⟩
    · exact Or.inl ⟨t, P1, L1, S1, M1, h1, fun J' X' q => g J' X' _ q⟩
    · exact Or.inr ⟨ph, o, M1, h1, fun J' X' q => g J' X' _ q⟩
theorem z_run_res {cd : z_Cd} : ∀ (n t : Nat) (P : z_P) (L : z_L) (S : List z_Av) (M : z_M), z_run sp rz hd C cd X n t P L S M → ∃ ph o M1, X ph o M1 ∧ ∀ X', X' ph o M1 → z_run sp rz hd C cd X' n t P L S M := by
  intro n
  induction n with
  | zero => intro t P L S M h; exact h.elim
  | succ n ih =>
    intro t P L S M h
    obtain ⟨b, P', h1, h2, hb⟩ := h
    rcases z_blk_res hb with ⟨t1, P1, L1, S1, M1, h3, g⟩ | ⟨ph, o, M1, h3, g⟩
    · obtain ⟨ph, o, M2, h4, g2⟩ := ih t1 P1 L1 S1 M1 h3
      exact ⟨ph, o, M2, h4, fun X' q => ⟨b, P', h1, h2, g _ _ (g2 X' q)⟩⟩
    · exact ⟨ph, o, M1, h3, fun X' q => ⟨b, P', h1, h2, g _ _ q⟩⟩
/-- a run without fuel -/
def z_ru (sp : Nat → Nat) (rz : Bool) (hd : List (Nat × Nat)) (C : Bool → Nat → List z_Av → z_M → Bool → z_Ot → z_M → Prop) (cd : z_Cd) (X : Bool → z_Ot → z_M → Prop) (t : Nat) (P : z_P) (L : z_L) (S : List z_Av) (M : z_M) : Prop := ∃ n, z_run sp rz hd C cd X n t P L S M
theorem z_ru_blk {cd : z_Cd} {t nx : Nat} {P : z_P} {L : z_L} {S : List z_Av} {M : z_M} {ms : List Bool} {is : List z_In} (hb : cd t = some (ms, is, nx)) (h : z_blk sp rz hd C (z_ru sp rz hd C cd X) X is nx P (z_msk ms L) S M) : z_ru sp rz hd C cd X t P L S M := by
  rcases z_blk_res h with ⟨t1, P1, L1, S1, M1, ⟨n, h3⟩, g⟩ | ⟨ph, o, M1, h3, g⟩
  · exact ⟨n + 1, (ms, is, nx), P, hb, Or.inl rfl, g _ _ h3⟩
  · exact ⟨1, (ms, is, nx), P, hb, Or.inl rfl, g _ _ h3⟩
/-- the world stands: from here on the phase is true -/
theorem z_ru_up {cd : z_Cd} {t nx : Nat} {P : z_P} {L : z_L} {S : List z_Av} {M : z_M} {ms : List Bool} {is : List z_In} (hb : cd t = some (ms, is, nx)) (hn : z_KL.length ≤ z_n M) (h : z_blk sp rz hd C (z_ru sp rz hd C cd X) X is nx (true, 0) (z_msk ms L) S M) : z_ru sp rz hd C cd X t P L S M := by
  rcases z_blk_res h with ⟨t1, P1, L1, S1, M1, ⟨n, h3⟩, g⟩ | ⟨ph, o, M1, h3, g⟩
  · exact ⟨n + 1, (ms, is, nx), (true, 0), hb, Or.inr ⟨rfl, hn⟩, g _ _ h3⟩
  · exact ⟨1, (ms, is, nx), (true, 0), hb, Or.inr ⟨rfl, hn⟩, g _ _ h3⟩
end ZRes
/-- a call comes to an end with Q; phase ph throughout -/
def z_Rn (sp : Nat → Nat) (d : Nat) (ph : Bool) (j : Nat) (As : List z_Av) (M : z_M) (Q : z_Ot → z_M → Prop) : Prop := ∃ o M1, z_Run sp z_mt d ph j As M ph o M1 ∧ Q o M1
theorem z_Rn_mono {sp : Nat → Nat} {d : Nat} {ph : Bool} {j : Nat} {As : List z_Av} {M : z_M} {Q Q' : z_Ot → z_M → Prop} (h : z_Rn sp d ph j As M Q) (hq : ∀ o M1, Q o M1 → Q' o M1) : z_Rn sp d ph j As M Q' := let ⟨o, M1, h1, h2⟩ := h; ⟨o, M1, h1, hq o M1 h2⟩
/-- where a body stands -/
def z_go (sp : Nat → Nat) (d j : Nat) (ph : Bool) (Q : z_Ot → z_M → Prop) (t : Nat) (P : z_P) (L : z_L) (S : List z_Av) (M : z_M) : Prop :=
  z_ru sp (z_mt j).1 (z_mt j).2.1 (z_Run sp z_mt d) (z_mt j).2.2.1 (fun ph' o M' => ph' = ph ∧ Q o M') t P L S M
theorem z_Rn_go {sp : Nat → Nat} {d : Nat} {ph : Bool} {j : Nat} {As : List z_Av} {M : z_M} {Q : z_Ot → z_M → Prop} {md : z_Md} (hm : z_mt j = md) (hj : j < 900) (hc : (As.map z_cat).sum ≤ md.2.2.2) (h : z_go sp d j ph Q 0 (ph, 0) (z_ent md.2.2.2 As) [] M) : z_Rn sp (d + 1) ph j As M Q := by
  obtain ⟨n, h⟩ := h
  obtain ⟨ph1, o, M1, ⟨rfl, hq⟩, g⟩ := z_run_res n _ _ _ _ _ h
  refine ⟨o, M1, Or.inr ⟨hj, by rw [hm]; exact hc, n, ?_⟩, hq⟩
  rw [← hm] at g
  exact g _ ⟨rfl, rfl, rfl⟩
theorem z_one_C {sp : Nat → Nat} {rz : Bool} {hd : List (Nat × Nat)} {C C' : Bool → Nat → List z_Av → z_M → Bool → z_Ot → z_M → Prop} (hC : ∀ ph j As M ph1 o M1, C ph j As M ph1 o M1 → C' ph j As M ph1 o M1) {J : Nat → z_P → z_L → List z_Av → z_M → Prop} {X : Bool → z_Ot → z_M → Prop} {i : z_In} {k : z_P → z_L → List z_Av → z_M → Prop} {P : z_P} {L : z_L} {S : List z_Av} {M : z_M}
    (h : z_one sp rz hd C J X i P L S M k) : z_one sp rz hd C' J X i P L S M k := by
  have hcall : ∀ {hd : List (Nat × Nat)} {J : Nat → z_P → z_L → List z_Av → z_M → Prop} {X : Bool → z_Ot → z_M → Prop} {G : List z_Av → Prop} {j n : Nat}, z_call hd C J X G k j n P L S M → z_call hd C' J X G k j n P L S M := by
    intro hd J X G j n h
    obtain ⟨As, r, o1, M1, ph, ph1, h1, h2, h3, h4, hc, h5, hb⟩ := h
    exact ⟨As, r, o1, M1, ph, ph1, h1, h2, h3, h4, hC _ _ _ _ _ _ _ hc, h5, hb⟩
  obtain ⟨ins, pc, a, b, z⟩ := i
  cases ins
  case invokestatic t => exact hcall (G := fun _ => True) h
  case invokevirtual t => exact hcall (G := fun As => (900 ≤ a ∧ ∃ k v, k < 5 ∧ As = z_r (some (500000 + k)) :: v) ∨ a < 900 ∧ ∃ a v, As = z_r (some a) :: v ∧ z_kd P M a = (z.toNat % 16, 0)) h
  case invokespecial t =>
    have h' : if a = 999 then _ else _ := h
    show if a = 999 then _ else _
    by_cases ha : a = 999
    · rw [if_pos ha] at h' ⊢
      exact h'
    · rw [if_neg ha] at h' ⊢
      exact hcall h'
  all_goals exact h
theorem z_blk_C {sp : Nat → Nat} {rz : Bool} {hd : List (Nat × Nat)} {C C' : Bool → Nat → List z_Av → z_M → Bool → z_Ot → z_M → Prop} (hC : ∀ ph j As M ph1 o M1, C ph j As M ph1 o M1 → C' ph j As M ph1 o M1) {J J' : Nat → z_P → z_L → List z_Av → z_M → Prop} {X : Bool → z_Ot → z_M → Prop} (hJ : ∀ t P L S M, J t P L S M → J' t P L S M) :
    ∀ {is : List z_In} {nx : Nat} {P : z_P} {L : z_L} {S : List z_Av} {M : z_M}, z_blk sp rz hd C J X is nx P L S M → z_blk sp rz hd C' J' X is nx P L S M
  | [], nx, P, L, S, M, h => hJ _ _ _ _ _ h
  | i :: is, nx, P, L, S, M, h => by
    have h' : z_one sp rz hd C J X i P L S M (fun P L S M => z_blk sp rz hd C J X is nx P L S M) := h
    show z_one sp rz hd C' J' X i P L S M (fun P L S M => z_blk sp rz hd C' J' X is nx P L S M)
    rcases z_one_res h' with ⟨P1, L1, S1, M1, h1, g⟩ | ⟨t, P1, L1, S1, M1, h1, g⟩ | ⟨ph, o, M1, h1, g⟩
    · exact z_one_C hC (g J' X _ (z_blk_C hC hJ h1))
    · exact z_one_C hC (g J' X _ (hJ _ _ _ _ _ h1))
    · exact z_one_C hC (g J' X _ h1)
theorem z_Run_up1 {sp : Nat → Nat} {mt : Nat → z_Md} : ∀ (d : Nat) (ph : Bool) (j : Nat) (As : List z_Av) (M : z_M) (ph1 : Bool) (o : z_Ot) (M1 : z_M), z_Run sp mt d ph j As M ph1 o M1 → z_Run sp mt (d + 1) ph j As M ph1 o M1 := by
  intro d
  induction d with
  | zero => intro ph j As M ph1 o M1 h; exact h.elim
  | succ d ih =>
    intro ph j As M ph1 o M1 h
    rcases h with h | ⟨h1, h2, n, h3⟩
    · exact Or.inl h
    · refine Or.inr ⟨h1, h2, n, ?_⟩
      have aux : ∀ (n t : Nat) (P : z_P) (L : z_L) (S : List z_Av) (M : z_M), z_run sp (mt j).1 (mt j).2.1 (z_Run sp mt d) (mt j).2.2.1 (fun ph' o' M' => ph' = ph1 ∧ o' = o ∧ M' = M1) n t P L S M → z_run sp (mt j).1 (mt j).2.1 (z_Run sp mt (d + 1)) (mt j).2.2.1 (fun ph' o' M' => ph' = ph1 ∧ o' = o ∧ M' = M1) n t P L S M := by
        intro n
        induction n with
        | zero => intro t P L S M h; exact h.elim
        | succ n ih2 =>
          intro t P L S M h
          obtain ⟨b, P', q1, q2, q3⟩ := h
          exact ⟨b, P', q1, q2, z_blk_C ih (fun t P L S M h => ih2 t P L S M h) q3⟩
      exact aux n _ _ _ _ _ h3
theorem z_Rn_up {sp : Nat → Nat} {d d' : Nat} {ph : Bool} {j : Nat} {As : List z_Av} {M : z_M} {Q : z_Ot → z_M → Prop} (hd : d ≤ d') (h : z_Rn sp d ph j As M Q) : z_Rn sp d' ph j As M Q := by
  induction hd with
  | refl => exact h
  | step _ ih =>
    obtain ⟨o, M1, h1, h2⟩ := ih
    exact ⟨o, M1, z_Run_up1 _ _ _ _ _ _ _ _ h1, h2⟩
