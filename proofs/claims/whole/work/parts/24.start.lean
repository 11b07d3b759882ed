/-! ===== from a run of the law over numbers to the law's end ===== -/
def z_M0 : z_M := (0, 0, fun _ _ => none, fun _ _ => 0, fun _ _ => 0)
/-- THE STATEMENT OVER NUMBERS: on every script the law's run ends with 1, within its room -/
def z_Pure : Prop := ∀ sp : Nat → Nat, sp 600001 ≤ 3072 → ∃ (d : Nat) (ph1 : Bool) (MF : z_M), d ≤ 2000 ∧ z_n MF ≤ 601024 ∧ z_s MF ≤ 7293034 ∧ z_Run sp z_mt (d + 1) false 317 [z_r (some 600000)] z_M0 ph1 (.inl (some (z_i 1))) MF
/-- the contracts of the two methods of String that wordIs calls -/
def z_Prims : Prop := ∀ (l : Launch) (base : Nat) (D : va_G) (sp : Nat → Nat) (j : Nat) (As : List z_Av) (o : z_Ot), z_Prim j As o → ∀ d ph M, z_Ct l base D sp (z_mi j) (d + 1) ph As M ph o M
theorem z_Pic0 {base : Nat} {D : va_G} {s : State} {H : Heap} (hK : va_K D vwCl [] s) (hH : H.size = base) (τ : Nat) : z_Pic base D τ (false, 0) z_M0 s H := by
  refine ⟨hK, fun _ => ⟨by rw [hH]; rfl, Nat.zero_le _⟩, fun z => (by cases z), fun a => z_cell98 ?_, fun a k r h => by cases h⟩
  unfold z_kd
  by_cases ea : a = 300000
  · rw [if_pos ea, if_neg (fun z => Bool.false_ne_true z.1)]
  · rw [if_neg ea, if_neg Bool.false_ne_true]
    exact congrArg Prod.fst (if_neg (Nat.not_lt_zero a))
theorem z_start {p : Program} {e : Env} {s : State} {m : MethodId} {below : List Frame} {meth : Method} {c : Code} (hpr : z_Prims) (hpu : z_Pure) (l : Launch) (hflags : l.flags = flags0) {b L : Nat} {xs : Nat → Int32} (hL : L ≤ 3072) (htab : ∀ x ∈ c.exceptionTable.toList, False) (C0 : lw_At p s m meth c b L xs) :
    W p l e room_1 s m #[Value.ref b] below meth c s.heap [] 0 0 (lw_Z below #[Value.ref b] s) (entryFrame m ([Value.ref b] : List Value).toArray 8) := by
  obtain ⟨D, sp, hK, hex, s1, s2, -⟩ := z_world C0
  obtain ⟨hx, hb, hr, hml, hown, hts, hX, hbl, hlocks, hgv⟩ := C0
  obtain ⟨d, ph1, MF, hd, hn, hsl, hrun⟩ := hpu sp (by rw [s2]; exact hL)
  have hl : l.stackTraces = false := by
    unfold Launch.stackTraces
    rw [hflags]
    decide
  have cx : z_Cx p s m #[Value.ref b] meth c (z_mi 317).2.1 (z_mi 317).2.2.1 (z_mi 317).1.cls := ⟨hx, hb, hml, hown, fun w hw => hts w (List.mem_filter.mp hw).1, hlocks⟩
  have htb : c.exceptionTable.toList = tableOf (z_mi 317).2.2.2.2.2 := by
    cases hq : c.exceptionTable.toList with
    | nil => rfl
    | cons x r => exact (htab x (by rw [hq]; exact List.mem_cons_self)).elim
  rcases hrun with ⟨hp, -, -⟩ | ⟨-, hA, n, hrun⟩
  · rcases hp with ⟨h, -⟩ | ⟨h, -⟩ <;> exact absurd h (by decide)
  have hrs := z_run_sound (R := room_1) (M0 := z_M0) (MF := MF) (e := e) (below := below) (base := s.heap.size) (D := D) (sp := sp) (z_gmX 317 (by decide)) cx hex hl (fun q => absurd q (by decide)) hr htb (show d + 9 ≤ 2048 by omega) (show 40 * d + 160 ≤ 84000 by omega) (show z_n MF ≤ 601024 + 0 by omega) (show z_s MF ≤ 7293034 + 0 by omega)
    (fun ph j As M ph1 o M1 h => ⟨z_Run_le sp z_mt d ph j As M ph1 o M1 h, z_Run_sound z_gmX hl (hpr l s.heap.size D sp) d ph j As M ph1 o M1 h⟩) n 0 (false, 0) _ [] z_M0 (Nat.zero_le _) hrun
  have hl9 := lv_entry ([Value.ref b]) (n := 8) (Nat.le_of_ble_eq_true rfl)
  rw [lg_entry_eq]
  generalize (lg_sl ([Value.ref b]) ++ List.replicate (8 - (lg_sl ([Value.ref b])).length) Slot.unset).toArray = ls at hl9 ⊢
  have hq : z_ad s.heap.size 0 0 sp 600000 = b := by
    unfold z_ad
    rw [if_neg (by omega), if_neg (by omega), if_neg (by omega)]
    exact s1
  have hbg := hrs 0 0 ls s.heap [] 0 0 (z_has_weak rfl hl9 fun k v hk => ?_) (z_Pic0 hK rfl 0) va_S.rf rfl rfl
  · intro T hT X
    obtain ⟨t, a1, o, b1, b2, b3⟩ := hbg T hT X
    refine ⟨t, a1, o, b1, b2, ?_⟩
    rcases b3 with ⟨⟨⟨v, hv, -, ho⟩, -, -⟩, L9, ⟨-, hW, hsm⟩, hL9⟩ | ⟨q, -, E, ce, L9, ⟨⟨k, hk, -⟩, -⟩, -⟩
    · cases hv
      refine ⟨ho, ⟨_, ho⟩, hW, (hsm.weaken (l' := []) (fun y hy hlt => absurd hlt (Nat.not_lt.mpr (hL9 y hy))) hn hsl)⟩
    · cases hk
  · rw [← hq]
    have h8 : z_ent 8 [z_r (some 600000)] = [some (z_r (some 600000)), none, none, none, none, none, none, none] := rfl
    have hk2 : (z_ent 8 [z_r (some 600000)])[k]? = some (some v) := hk
    rw [h8] at hk2
    match k, hk2 with
    | 0, hk2 => cases hk2; exact List.mem_cons_self
    | 1, hk2 => cases hk2
    | 2, hk2 => cases hk2
    | 3, hk2 => cases hk2
    | 4, hk2 => cases hk2
    | 5, hk2 => cases hk2
    | 6, hk2 => cases hk2
    | 7, hk2 => cases hk2
    | n + 8, hk2 => simp at hk2
