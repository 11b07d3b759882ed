/-! (out of the kit's skeleton: what holds at the law's entry, the law's own end) -/
def R_law : String := "LacedHolesLaw"
def lw_P (b : Addr) (xs : List Int32) (args : Array Value) (s : State) : Prop := args = #[.ref b] ∧ s.IntsAt b xs ∧ xs.length ≤ 3072 ∧ (Jvm.Cond.and given_1 narrow_1).before args s = true
def lw_Q (_ : Array Value) (s : State) (o : Outcome) (t : State) : Prop := o = .returned (some (.int 1)) ∧ Framed s o t [] 601024 7293034
def lw_Z (below : List Frame) (a : Array Value) (s : State) : State → Prop := fun t => ∃ o, t.status = .running ∧ Ended t below o ∧ lw_Q a s o t
/-- the law's own end, with 1 on the stack, nothing written that was there before, its room as the claim has it -/
theorem lw_ret {p : Program} {l : Launch} {e : Env} {s : State} {m : MethodId} {below : List Frame} {meth : Method} {c : Code} {b : Nat} (hx : p.tables.exec = Jvm.exec) (hb : c.code = code) (hr : meth.sig.returnType = ret) (hlocks : meth.locks = false) {pc : Nat} {H : Heap} {ls : Array Slot} (hdg : decode code pc = .ok (.ireturn, 1)) : W p l e room_1 s m #[Value.ref b] below meth c H [] 601024 7293034 (lw_Z below #[Value.ref b] s) (F0 m pc ls [.int 1]) := by
  intro T hT X
  obtain ⟨fs, hret, hrun, hended, hW, hframe⟩ := X.leave (v := some (.int 1)) (hlocks := hlocks) (fun h => by rw [hr] at h; cases h)
  have hmeth' : T.vm.method? m = some meth := X.method'
  refine ⟨T.setFrames fs, ?_, .returned (some (.int 1)), hrun, hended, rfl, ⟨_, rfl⟩, hW, hframe⟩
  jvm_step X.here [X.here.top, hx, hb, hdg, hmeth', hr, ret, narrow_b1]
  (try refine ⟨rfl, ?_⟩); (try refine ⟨rfl, ?_⟩)
  first | (intro acts; rw [hret _ acts rfl rfl rfl]) | rw [hret _ _ rfl rfl rfl]
  exact Steps.refl _
/-- what holds at the law's entry: the machine, the code, the tables' words (any of lw_tbl by 'hts w (by decide +kernel)'), the script of L ints xs at the cell b, what the Statement gives of the start (any of its parts by flat_of_before) -/
def lw_At (p : Program) (s : State) (m : MethodId) (meth : Method) (c : Code) (b L : Nat) (xs : Nat → Int32) : Prop :=
  p.tables.exec = Jvm.exec ∧ c.code = code ∧ meth.sig.returnType = ret ∧ c.maxLocals = 8 ∧ s.vm.findClass R_law = some m.cls ∧ (∀ w ∈ lw_tbl, w.before #[Value.ref b] s = true) ∧ va_X b L xs s s.heap ∧ b < s.heap.size ∧ meth.locks = false ∧ (Jvm.Cond.and given_1 narrow_1).before #[Value.ref b] s = true
/-! ===== the world at the law's entry ===== -/
def z_tm (i : Nat) : Term := .string "LacedHoles$Boot" (z_Wrd.getD i (0, "")).1
def z_flat : List Jvm.Cond := flatC (Jvm.Cond.and given_1 narrow_1)
set_option maxRecDepth 100000 in
theorem z_n1 : ∀ i, i < 5 → Jvm.Cond.exactly (z_tm i) "java/lang/String" ∈ z_flat := by decide +kernel
set_option maxRecDepth 100000 in
theorem z_n2 : ∀ i, i < 5 → Jvm.Cond.eq (.field (z_tm i) "java/lang/String" "coder" "B") (.int 0) ∈ z_flat := by decide +kernel
set_option maxRecDepth 100000 in
theorem z_n3 : ∀ i, i < 5 → Jvm.Cond.arrayOf (.field (z_tm i) "java/lang/String" "value" "[B") .byte ∈ z_flat := by decide +kernel
set_option maxRecDepth 100000 in
theorem z_n4 : ∀ i, i < 5 → Jvm.Cond.eq (.length (.field (z_tm i) "java/lang/String" "value" "[B")) (.int (Int32.ofNat ((z_Txt.map List.length).getD i 0))) ∈ z_flat := by decide +kernel
set_option maxRecDepth 100000 in
theorem z_n5 : ∀ i, i < 5 → ∀ j, j < (z_Txt.map List.length).getD i 0 → Jvm.Cond.eq (.elem (.field (z_tm i) "java/lang/String" "value" "[B") (.int (Int32.ofNat j))) (.int (((z_Txt.map fun t => t.map Int32.ofInt).getD i []).getD j 0)) ∈ z_flat := by decide +kernel
set_option maxRecDepth 100000 in
theorem z_n6 : ∀ i, i < 5 → ∀ j, j < 5 → i ≠ j → Jvm.Cond.not (Jvm.Cond.eq (z_tm i) (z_tm j)) ∈ z_flat ∨ Jvm.Cond.not (Jvm.Cond.eq (z_tm j) (z_tm i)) ∈ z_flat := by decide +kernel
set_option maxRecDepth 100000 in
theorem z_n7 : ∀ q ∈ z_Msg, Jvm.Cond.exactly (.string "LacedHoles" q.1) "java/lang/String" ∈ z_flat := by decide +kernel
set_option maxRecDepth 100000 in
theorem z_n8 : (Jvm.Cond.not (.castable (z_En 0) (z_En 1)) ∈ z_flat ∧ Jvm.Cond.not (.castable (z_En 0) (z_En 2)) ∈ z_flat) ∧ Jvm.Cond.not (.castable (z_En 2) (z_En 1)) ∈ z_flat := by decide +kernel
set_option maxRecDepth 100000 in
theorem z_n9 : Jvm.Cond.isRef (.static Bundle.tN "UNASSIGNED_STACK" Bundle.steD) ∈ z_flat ∧ Jvm.Cond.isRef (.static Bundle.tN "SUPPRESSED_SENTINEL" Bundle.listD) ∈ z_flat := by decide +kernel
set_option maxRecDepth 100000 in
theorem z_n10 : ∀ q ∈ z_Msg, Jvm.Cond.stringRef "LacedHoles" q.1 q.2 ∈ tables_1 := by decide +kernel
set_option maxRecDepth 100000 in
theorem z_n11 : ∀ i, i < 5 → Jvm.Cond.stringRef "LacedHoles$Boot" (z_Wrd.getD i (0, "")).1 (z_Wrd.getD i (0, "")).2 ∈ tables_1 := by decide +kernel
set_option maxRecDepth 100000 in
theorem z_n12 : (Jvm.Cond.laysStatic Bundle.tN "UNASSIGNED_STACK" Bundle.steD ∈ tables_1 ∧ Jvm.Cond.laysStatic Bundle.tN "SUPPRESSED_SENTINEL" Bundle.listD ∈ tables_1) ∧ Jvm.Cond.initialized Bundle.tN ∈ tables_1 := by decide +kernel
theorem z_tx1 {w : Jvm.Cond} (j : Nat) (h : tables_1_1[j]? = some w) : w ∈ tables_1 := z_in1 (List.mem_of_getElem? h)
theorem z_tx4 {w : Jvm.Cond} (j : Nat) (h : tables_1_4[j]? = some w) : w ∈ tables_1 := z_in4 (List.mem_of_getElem? h)
set_option maxRecDepth 100000 in
theorem z_n13 : Jvm.Cond.eq (.static "java/lang/String" "COMPACT_STRINGS" "Z") (.int 1) ∈ z_flat ∧ Jvm.Cond.isRef (.static "jdk/internal/util/Preconditions" "SIOOBE_FORMATTER" "Ljava/util/function/BiFunction;") ∈ z_flat := by decide +kernel
theorem z_world {p : Program} {s : State} {m : MethodId} {meth : Method} {c : Code} {b L : Nat} {xs : Nat → Int32} (C0 : lw_At p s m meth c b L xs) :
    ∃ (D : va_G) (sp : Nat → Nat), va_K D vwCl [] s ∧ z_Ex s.heap.size sp s s.heap ∧ sp 600000 = b ∧ sp 600001 = L ∧ ∀ k, Int32.ofNat (sp (600002 + k)) = xs k := by
  obtain ⟨hx, hb, hr, hml, hown, hts, hX, hbl, hlocks, hgv⟩ := id C0
  have hs : ∀ w ∈ z_flat, w.before #[Value.ref b] s = true := flat_of_before _ hgv
  have htb : ∀ w ∈ tables_1, w.before #[Value.ref b] s = true := fun w hw => hts w (List.mem_append_right _ hw)
  have hW0 : ∀ w ∈ z_W0, w.before #[Value.ref b] s = true := fun w hw => hts w (List.mem_filter.mp hw).1
  have hA : ∀ a : Nat, a < s.heap.size → ¬ s.heap.size ≤ a := fun a h => Nat.not_le.mpr h
  have hKn : ∀ k : Nat, ∃ q : ClassId × (Nat → Nat), ∀ r : vw_C, vwCl[k]? = some r → u_Kn s r.1 r.2.1 r.2.2 q.1 q.2 := by
    intro k
    cases hq : vwCl[k]? with
    | none => exact ⟨(0, fun _ => 0), fun r h => by cases h⟩
    | some r =>
      obtain ⟨C, T, N⟩ := r
      obtain ⟨c9, iS, h9⟩ := u_known (C := C) (T := T) (N := N) (n := N) hW0 (z_cls k C T N hq).2.1 (hW0 _ (z_nws k C T N hq).1)
      exact ⟨(c9, iS), fun r h => by cases h; exact h9⟩
  obtain ⟨f, hf⟩ := Classical.axiomOfChoice hKn
  obtain ⟨adK, adV, hS, hev⟩ := vk_Sof (args := #[Value.ref b]) (s := s) (N := 5) (tm := z_tm) (len := z_Txt.map List.length) (byt := z_Txt.map fun t => t.map Int32.ofInt) (A := fun q => s.heap.size ≤ q)
    (by decide +kernel) (fun i hi => hs _ (z_n1 i hi)) (fun i hi => hs _ (z_n2 i hi)) (fun i hi => hs _ (z_n3 i hi)) (fun i hi => hs _ (z_n4 i hi)) (fun i hi j hj => hs _ (z_n5 i hi j hj))
    (fun i j hi hj hij => (z_n6 i hi j hj hij).elim (fun h => Or.inl (hs _ h)) (fun h => Or.inr (hs _ h))) hA
  refine ⟨(fun k => (f k).1, fun k => (f k).2), fun a => if a = 600000 then b else if a = 600001 then L else if 600002 ≤ a then (xs (a - 600002)).toUInt32.toNat else adK (a - 500000), ⟨fun k r h => hf k r h, fun k q h => by simp at h⟩, ?_, rfl, rfl, fun k => ?_⟩
  · have hsp : ∀ k, k < 5 → (if 500000 + k = 600000 then b else if 500000 + k = 600001 then L else if 600002 ≤ 500000 + k then (xs (500000 + k - 600002)).toUInt32.toNat else adK (500000 + k - 500000)) = adK k := by
      intro k hk
      rw [if_neg (by omega), if_neg (by omega), if_neg (by omega), Nat.add_sub_cancel_left]
    have hxs : (fun k => Int32.ofNat (if 600002 + k = 600000 then b else if 600002 + k = 600001 then L else if 600002 ≤ 600002 + k then (xs (600002 + k - 600002)).toUInt32.toNat else adK (600002 + k - 500000))) = xs := by
      funext k
      rw [if_neg (by omega), if_neg (by omega), if_pos (by omega), Nat.add_sub_cancel_left]
      rw [← UInt32.toInt32_ofNat', UInt32.ofNat_toNat, Int32.toInt32_toUInt32]
    refine ⟨Nat.le_refl _, vx_Zqof (htb _ z_n12.1.1) (htb _ z_n12.2) (hs _ z_n9.1) hA, vx_Zqof (htb _ z_n12.1.2) (htb _ z_n12.2) (hs _ z_n9.2) hA, fun q hq => ?_, fun k hk => ?_, va_Nc.of (hs _ z_n8.1.1), va_Nc.of (hs _ z_n8.1.2), va_Nc.of (hs _ z_n8.2), ⟨adV, ?_, va_Zof (htb _ (z_tx4 135 rfl)) (htb _ (z_tx1 18 rfl)) (va_eqi (hs _ z_n13.1)) hA, va_Zqof (htb _ (z_tx4 151 rfl)) (htb _ (z_tx1 20 rfl)) (hs _ z_n13.2) hA⟩, fun w hw hk => z_wk_of hk (hts w hw), ?_, hbl⟩
    · obtain ⟨a, c9, cA, kA, q1, -⟩ := Cond.exactly_spec (args := #[Value.ref b]) (first := s) (o := none) (s := s) (idx := []) (hs _ (z_n7 q hq))
      exact ⟨a, vk_R.of (htb _ (z_n10 q hq)) q1⟩
    · have h9 := vk_R.of (htb _ (z_n11 k hk)) (hev k hk)
      show vk_R _ _ _ (if 500000 + k = 600000 then b else if 500000 + k = 600001 then L else if 600002 ≤ 500000 + k then (xs (500000 + k - 600002)).toUInt32.toNat else adK (500000 + k - 500000)) s
      rw [hsp k hk]
      exact h9
    · refine ⟨fun i hi => ?_, fun i j hi hj he => ?_⟩
      · have h9 := hS.1 i hi
        show va_O _ (if 500000 + i = 600000 then b else if 500000 + i = 600001 then L else if 600002 ≤ 500000 + i then (xs (500000 + i - 600002)).toUInt32.toNat else adK (500000 + i - 500000)) _ _ _ ∧ va_OF _ _ _ _ (if 500000 + i = 600000 then b else if 500000 + i = 600001 then L else if 600002 ≤ 500000 + i then (xs (500000 + i - 600002)).toUInt32.toNat else adK (500000 + i - 500000)) _ _ _ ∧ va_OF _ _ _ _ (if 500000 + i = 600000 then b else if 500000 + i = 600001 then L else if 600002 ≤ 500000 + i then (xs (500000 + i - 600002)).toUInt32.toNat else adK (500000 + i - 500000)) _ _ _ ∧ _
        rw [hsp i hi]
        exact h9
      · have he' : (if 500000 + i = 600000 then b else if 500000 + i = 600001 then L else if 600002 ≤ 500000 + i then (xs (500000 + i - 600002)).toUInt32.toNat else adK (500000 + i - 500000)) = (if 500000 + j = 600000 then b else if 500000 + j = 600001 then L else if 600002 ≤ 500000 + j then (xs (500000 + j - 600002)).toUInt32.toNat else adK (500000 + j - 500000)) := he
        rw [hsp i hi, hsp j hj] at he'
        exact hS.2 i j hi hj he'
    · show va_X b L (fun k => Int32.ofNat (if 600002 + k = 600000 then b else if 600002 + k = 600001 then L else if 600002 ≤ 600002 + k then (xs (600002 + k - 600002)).toUInt32.toNat else adK (600002 + k - 500000))) s s.heap
      rw [hxs]
      exact hX
  · show Int32.ofNat (if 600002 + k = 600000 then b else if 600002 + k = 600001 then L else if 600002 ≤ 600002 + k then (xs (600002 + k - 600002)).toUInt32.toNat else adK (600002 + k - 500000)) = xs k
    rw [if_neg (by omega), if_neg (by omega), if_pos (by omega), Nat.add_sub_cancel_left]
    rw [← UInt32.toInt32_ofNat', UInt32.ofNat_toNat, Int32.toInt32_toUInt32]
