def z_ThrL : List (Bool × Nat × Nat × Nat × Nat) := [(false, 110, 112, 0, 15), (false, 110, 112, 0, 15), (false, 174, 112, 0, 15), (false, 179, 112, 0, 15), (false, 219, 112, 0, 15), (false, 241, 112, 0, 15), (true, 290, 112, 0, 15), (false, 179, 112, 0, 15), (true, 324, 112, 0, 15), (true, 341, 112, 0, 15), (true, 363, 365, 1, 17), (true, 368, 370, 2, 19), (true, 371, 112, 0, 15)]
/-! ===== the check of a method's text, by program ===== -/
def z_thB (k ic : Nat) : Bool := (decide (k = 0) && decide (ic = 112)) || (decide (k = 1) && decide (ic = 365)) || (decide (k = 2) && decide (ic = 370))
def z_thC (k ic : Nat) : Bool := (z_Tl k ic).all (fun w => decide (w ∈ lw_tbl) && (goodWord w || z_wk w) && vx_ot w)
set_option maxRecDepth 100000 in
theorem z_th0 : z_thC 0 112 = true := by decide +kernel
set_option maxRecDepth 100000 in
theorem z_th1 : z_thC 1 365 = true := by decide +kernel
set_option maxRecDepth 100000 in
theorem z_th2 : z_thC 2 370 = true := by decide +kernel
theorem z_thC_ok {k ic : Nat} (h : z_thC k ic = true) (h1 : Jvm.Cond.initialized (z_En k) ∈ z_W0) (h2 : Bundle.fit (z_En k) = true) : z_Th k ic := by
  refine ⟨fun w hw => ?_, h1, h2⟩
  have := List.all_eq_true.mp h w hw
  simp only [Bool.and_eq_true, Bool.or_eq_true, decide_eq_true_eq] at this
  exact ⟨this.1.1, this.1.2, this.2⟩
theorem z_th_ok {k ic : Nat} (h : z_thB k ic = true) : z_Th k ic := by
  simp only [z_thB, Bool.or_eq_true, Bool.and_eq_true, decide_eq_true_eq] at h
  rcases h with (⟨rfl, rfl⟩ | ⟨rfl, rfl⟩) | ⟨rfl, rfl⟩
  · exact z_thC_ok z_th0 z_ini0 (by decide +kernel)
  · exact z_thC_ok z_th1 z_ini1 (by decide +kernel)
  · exact z_thC_ok z_th2 z_ini2 (by decide +kernel)
def z_fi (a b : Nat) (ini : Bool) (own : String) : Bool := match vwCl[a]? with
  | some q => !(q.2.1 b).2.2.2 || (ini && decide ((q.2.1 b).1 = own))
  | none => false
def z_nc (a : Nat) (p : String → Bool) : Bool := match vwCl[a]? with
  | some q => p q.1
  | none => false
def z_thr (cc : ByteArray) (pc idx a : Nat) (q : Bool × Nat × Nat × Nat × Nat) : Bool :=
  decide (a = 60 + q.2.2.2.1) && (!decide (q.2.2.2.1 = 2) || q.1) && z_thB q.2.2.2.1 q.2.2.1 && decide (z_cL[q.2.2.2.2]? = some (13, idx, z_En q.2.2.2.1)) && (z_Msg.lookup q.2.1).isSome && decide (decode cc (pc + 3) = .ok (.dup, 1)) &&
    (if q.1 = true then decide (decode cc (pc + 4) = .ok (.ldc_w q.2.1, 3)) else decide (decode cc (pc + 4) = .ok (.ldc q.2.1, 2))) && decide (decode cc (pc + (if q.1 = true then 7 else 6)) = .ok (.invokespecial q.2.2.1, 3)) && decide (decode cc (pc + (if q.1 = true then 10 else 9)) = .ok (.athrow, 1))
def z_lkB (o vp : Nat) (cc : ByteArray) (ini rz : Bool) (ret : Option FieldType) (tbe hde : Bool) (i : z_In) : Bool := match i.1 with
  | .bipush n => decide ((Int8.ofInt n).toInt = n)
  | .sipush n => decide ((Int16.ofInt n).toInt = n)
  | .ldc idx => if i.2.2.1 = 1 then decide (o = 4) && decide ((z_Wrd.getD i.2.2.2.1 (0, "")).1 = idx) else decide (z_kL[i.2.2.2.1]? = some (o, idx, i.2.2.2.2))
  | .ldc_w idx => decide (z_kL[i.2.2.2.1]? = some (o, idx, i.2.2.2.2))
  | .ldc2_w idx => decide (z_lL[i.2.2.2.1]? = some (o, idx, i.2.2.2.2))
  | .goto off => decide ((i.2.1 : Int) + off = (z_tg i off : Int))
  | .if_icmp _ off => decide ((i.2.1 : Int) + off = (z_tg i off : Int))
  | .ifCond _ off => decide ((i.2.1 : Int) + off = (z_tg i off : Int))
  | .ifnonnull off => decide ((i.2.1 : Int) + off = (z_tg i off : Int))
  | .tableswitch d _ _ offs => decide ((i.2.1 : Int) + d = (z_tg i d : Int)) && offs.toList.all (fun off => decide ((i.2.1 : Int) + off = (z_tg i off : Int)))
  | .getfield idx => decide (z_fL[i.2.2.2.2.toNat]? = some (o, idx, i.2.2.1, i.2.2.2.1))
  | .putfield idx => decide (z_fL[i.2.2.2.2.toNat]? = some (o, idx, i.2.2.1, i.2.2.2.1)) && z_fi i.2.2.1 i.2.2.2.1 ini (z_ow o)
  | .anewarray idx => decide (z_cL[i.2.2.2.2.toNat]? = some (o, idx, "LacedHoles$Scene"))
  | .multianewarray idx dim => decide (dim = 2) && decide (z_cL[i.2.2.2.2.toNat]? = some (o, idx, "[" ++ (FieldType.array .int).toString))
  | .new idx => if i.2.2.1 < 50 then z_nc i.2.2.1 (fun C => decide (z_cL[i.2.2.2.2.toNat]? = some (o, idx, C))) else decide (o = 13) && tbe && (match z_ThrL[i.2.2.2.2.toNat]? with
    | some q => z_thr cc i.2.1 idx i.2.2.1 q
    | none => false)
  | .invokestatic idx => hde && tbe && decide (i.2.2.1 ∈ z_calL) && decide (z_kn i.2.2.1 = 0) && decide ((z_mi i.2.2.1).2.2.2.2.1 = i.2.2.2.1) && decide (z_mL[i.2.2.2.2.toNat]? = some (o, idx, i.2.2.1, 0))
  | .invokevirtual idx => (!hde || tbe) && decide (i.2.2.1 ∈ z_calL) && decide (z_kn i.2.2.1 = 1) && decide ((z_mi i.2.2.1).2.2.2.2.1 = i.2.2.2.1) && decide ((z_mi i.2.2.1).2.2.2.2.2 = []) && decide (z_mL[i.2.2.2.2.toNat / 16]? = some (o, idx, i.2.2.1, 0)) && (hde || decide (i.2.1 = vp)) &&
      (if 900 ≤ i.2.2.1 then decide ((z_mi i.2.2.1).1.cls = "java/lang/String") else z_nc (i.2.2.2.2.toNat % 16) (fun C => decide (C = (z_mi i.2.2.1).1.cls)))
  | .invokespecial idx => if i.2.2.1 = 999 then decide (z_oL[i.2.2.2.2.toNat]? = some (o, idx)) else hde && tbe && decide (i.2.2.1 ∈ z_calL) && decide (z_kn i.2.2.1 = 2) && decide ((z_mi i.2.2.1).2.2.2.2.1 = i.2.2.2.1) && decide ((z_mi i.2.2.1).2.2.2.2.2 = []) && decide ((z_mi i.2.2.1).2.2.2.1 = none) && (decide (z_mL[i.2.2.2.2.toNat]? = some (o, idx, i.2.2.1, 0)) || decide (z_mL[i.2.2.2.2.toNat]? = some (o, idx, i.2.2.1, 1)))
  | .ireturn => (decide (ret = some .int) && !rz) || (decide (ret = some .boolean) && rz)
  | .lreturn => decide (ret = some .long)
  | .return_ => decide (ret = none)
  | _ => true
theorem z_lookup_mem {α β : Type} [BEq α] [LawfulBEq α] {a : α} {b : β} : ∀ {l : List (α × β)}, l.lookup a = some b → (a, b) ∈ l
  | [], h => by simp at h
  | (x, y) :: r, h => by
    rw [List.lookup_cons] at h
    by_cases e : a == x
    · rw [e] at h
      simp at h
      rw [eq_of_beq e, h]
      exact List.mem_cons_self
    · rw [Bool.not_eq_true] at e
      rw [e] at h
      exact List.mem_cons_of_mem _ (z_lookup_mem h)
theorem z_lkB_ok {o vp : Nat} {cc : ByteArray} {ini rz : Bool} {ret : Option FieldType} {tbe hde : Bool} {tb : List (Nat × Nat × Nat × Nat)} {hd : List (Nat × Nat)} (ht : tbe = true → tb = []) (hh : hde = true → hd = []) (hh2 : hd = [] → hde = true) (hx : hde = false → ∀ k h, hd.lookup k = some h → z_hx (z_ow o) tb vp k h) {i : z_In} (h : z_lkB o vp cc ini rz ret tbe hde i = true) : z_lk z_mi (z_ow o) cc ini rz ret tb hd i := by
  obtain ⟨ins, pc, a, b, z⟩ := i
  cases ins
  case newarray t => exact ⟨z_w_ai, z_w_aj⟩
  case bipush n => simpa only [z_lkB, z_lk, decide_eq_true_eq] using h
  case sipush n => simpa only [z_lkB, z_lk, decide_eq_true_eq] using h
  case goto off => simpa only [z_lkB, z_lk, decide_eq_true_eq] using h
  case if_icmp c off => simpa only [z_lkB, z_lk, decide_eq_true_eq] using h
  case ifCond c off => simpa only [z_lkB, z_lk, decide_eq_true_eq] using h
  case ifnonnull off => simpa only [z_lkB, z_lk, decide_eq_true_eq] using h
  case lreturn => simpa only [z_lkB, z_lk, decide_eq_true_eq] using h
  case return_ => simpa only [z_lkB, z_lk, decide_eq_true_eq] using h
  case ireturn =>
    simp only [z_lkB, Bool.or_eq_true, Bool.and_eq_true, decide_eq_true_eq, Bool.not_eq_true'] at h
    exact h
  case tableswitch d lo hi offs =>
    simp only [z_lkB, Bool.and_eq_true, decide_eq_true_eq, List.all_eq_true] at h
    exact ⟨h.1, fun off ho => h.2 off (Array.mem_toList_iff.mpr ho)⟩
  case ldc idx =>
    have h' : (if a = 1 then decide (o = 4) && decide ((z_Wrd.getD b (0, "")).1 = idx) else decide (z_kL[b]? = some (o, idx, z))) = true := h
    show if a = 1 then _ else _
    by_cases ha : a = 1
    · rw [if_pos ha] at h' ⊢
      simp only [Bool.and_eq_true, decide_eq_true_eq] at h'
      rw [h'.1]
      exact ⟨rfl, h'.2⟩
    · rw [if_neg ha] at h' ⊢
      exact z_k_ok _ (List.mem_of_getElem? (of_decide_eq_true h'))
  case ldc_w idx => exact z_k_ok _ (List.mem_of_getElem? (of_decide_eq_true h))
  case ldc2_w idx => exact z_l_ok _ (List.mem_of_getElem? (of_decide_eq_true h))
  case getfield idx => exact z_f_ok _ (List.mem_of_getElem? (of_decide_eq_true h))
  case putfield idx =>
    simp only [z_lkB, Bool.and_eq_true, decide_eq_true_eq] at h
    obtain ⟨C, T, N, w1, w2, w3⟩ := z_f_ok _ (List.mem_of_getElem? h.1)
    refine ⟨C, T, N, w1, w2, w3, fun hf => ?_⟩
    have h2 := h.2
    unfold z_fi at h2
    have w1' : vwCl[a]? = some (C, T, N) := w1
    rw [w1'] at h2
    have hf' : (T b).2.2.2 = true := hf
    simp only [hf', Bool.not_true, Bool.false_or, Bool.and_eq_true, decide_eq_true_eq] at h2
    exact h2
  case anewarray idx => exact ⟨z_c_ok _ (List.mem_of_getElem? (of_decide_eq_true h)), z_w_ao⟩
  case multianewarray idx dim =>
    simp only [z_lkB, Bool.and_eq_true, decide_eq_true_eq] at h
    exact ⟨h.1, z_c_ok _ (List.mem_of_getElem? h.2), z_w_aa, z_w_ai⟩
  case new idx =>
    have h' : (if a < 50 then z_nc a (fun C => decide (z_cL[z.toNat]? = some (o, idx, C))) else decide (o = 13) && tbe && (match z_ThrL[z.toNat]? with
      | some q => z_thr cc pc idx a q
      | none => false)) = true := h
    show if a < 50 then _ else _
    by_cases ha : a < 50
    · rw [if_pos ha] at h' ⊢
      unfold z_nc at h'
      cases hq : vwCl[a]? with
      | none => rw [hq] at h'; cases h'
      | some q =>
        obtain ⟨C, T, N⟩ := q
        rw [hq] at h'
        exact ⟨C, T, N, rfl, z_c_ok _ (List.mem_of_getElem? (of_decide_eq_true h')), z_nws a C T N hq⟩
    · rw [if_neg ha] at h' ⊢
      simp only [Bool.and_eq_true, decide_eq_true_eq] at h'
      obtain ⟨⟨rfl, w2⟩, w3⟩ := h'
      cases hq : z_ThrL[z.toNat]? with
      | none => rw [hq] at w3; cases w3
      | some q =>
        rw [hq] at w3
        obtain ⟨wide, is, ic, k, pl⟩ := q
        simp only [z_thr, Bool.and_eq_true, decide_eq_true_eq, Bool.or_eq_true, Bool.not_eq_true', decide_eq_false_iff_not] at w3
        obtain ⟨⟨⟨⟨⟨⟨⟨⟨y1, y0⟩, y2⟩, y3⟩, y4⟩, y5⟩, y6⟩, y7⟩, y8⟩ := w3
        obtain ⟨tx, hm⟩ := Option.isSome_iff_exists.mp y4
        have hk : a - 60 = k := by omega
        refine ⟨rfl, ht w2, wide, is, ic, tx, (fun q => y0.resolve_left (fun z => z (hk.symm.trans q))), ?_, ?_, z_lookup_mem hm, y5, ?_, y7, y8⟩
        · show z_Th (a - 60) ic
          rw [hk]
          exact z_th_ok y2
        · show Jvm.Cond.classLink _ idx (z_En (a - 60)) ∈ _
          rw [hk]
          exact z_c_ok _ (List.mem_of_getElem? y3)
        · cases wide with
          | true => exact of_decide_eq_true y6
          | false => exact of_decide_eq_true y6
  case invokestatic idx =>
    simp only [z_lkB, Bool.and_eq_true, decide_eq_true_eq] at h
    obtain ⟨⟨⟨⟨⟨w1, w2⟩, w3⟩, w4⟩, w5⟩, w6⟩ := h
    obtain ⟨c1, c2, -⟩ := z_calA _ w3
    exact ⟨hh w1, ht w2, by rw [w5] at c1; exact c1, z_m_ok _ (List.mem_of_getElem? w6), c2 w4⟩
  case invokevirtual idx =>
    simp only [z_lkB, Bool.and_eq_true, decide_eq_true_eq, Bool.or_eq_true, Bool.not_eq_true'] at h
    obtain ⟨⟨⟨⟨⟨⟨⟨w1, w2⟩, w3⟩, w4⟩, w5⟩, w6⟩, w7⟩, w8⟩ := h
    obtain ⟨c1, -, c2, c3, -⟩ := z_calA _ w2
    refine ⟨fun q => ?_, by rw [w4] at c1; exact c1, w5, z_m_ok _ (List.mem_of_getElem? w6), c2 (by show ¬ z_kn a = 0; rw [show z_kn a = 1 from w3]; decide), c3 w3, fun k hh9 hl => ?_, fun h9 => ?_, fun h9 => ?_⟩
    · rcases w1 with w1 | w1
      · rw [hh2 q] at w1; cases w1
      · exact ht w1
    · rcases w7 with w7 | w7
      · rw [hh w7] at hl; cases hl
      · have hne : hde = false := by
          cases hq : hde with
          | false => rfl
          | true => rw [hh hq] at hl; cases hl
        rw [show pc = vp from w7]
        exact hx hne k hh9 hl
    · rw [if_pos (show 900 ≤ a from h9)] at w8
      exact of_decide_eq_true w8
    · rw [if_neg (show ¬ 900 ≤ a from Nat.not_le.mpr h9)] at w8
      unfold z_nc at w8
      show ∃ T N, vwCl[z.toNat % 16]? = _
      have w8' : (match vwCl[z.toNat % 16]? with | some q => (fun C => decide (C = (z_mi a).1.cls)) q.1 | none => false) = true := w8
      cases hq : vwCl[z.toNat % 16]? with
      | none => rw [hq] at w8'; cases w8'
      | some q =>
        rw [hq] at w8'
        obtain ⟨C, T, N⟩ := q
        have : C = (z_mi a).1.cls := of_decide_eq_true w8'
        exact ⟨T, N, by rw [this]⟩
  case invokespecial idx =>
    have h' : (if a = 999 then decide (z_oL[z.toNat]? = some (o, idx)) else hde && tbe && decide (a ∈ z_calL) && decide (z_kn a = 2) && decide ((z_mi a).2.2.2.2.1 = b) && decide ((z_mi a).2.2.2.2.2 = []) && decide ((z_mi a).2.2.2.1 = none) && (decide (z_mL[z.toNat]? = some (o, idx, a, 0)) || decide (z_mL[z.toNat]? = some (o, idx, a, 1)))) = true := h
    show if a = 999 then _ else _
    by_cases ha : a = 999
    · rw [if_pos ha] at h' ⊢
      exact ⟨z_o_ok _ (List.mem_of_getElem? (of_decide_eq_true h')), z_w_oi, z_w_oc⟩
    · rw [if_neg ha] at h' ⊢
      simp only [Bool.and_eq_true, decide_eq_true_eq, Bool.or_eq_true] at h'
      obtain ⟨⟨⟨⟨⟨⟨⟨w1, w2⟩, w3⟩, w4⟩, w5⟩, w6⟩, w7⟩, w8⟩ := h'
      obtain ⟨c1, -, c2, -, c3⟩ := z_calA _ w3
      refine ⟨hh w1, ht w2, by rw [w5] at c1; exact c1, w6, w7, c3 w4, ?_, c2 (by rw [w4]; decide)⟩
      rcases w8 with w8 | w8
      · exact Or.inl (z_m_ok _ (List.mem_of_getElem? w8))
      · exact Or.inr (z_m_ok _ (List.mem_of_getElem? w8))
  all_goals exact trivial
def z_dcB (cc : ByteArray) (i : z_In) : Bool := match i.1 with
  | .tableswitch _ _ _ _ => (match decode cc i.2.1 with
    | .ok q => decide (q.1 = i.1)
    | .error _ => false)
  | _ => decide (decode cc i.2.1 = .ok (i.1, z_len i.1))
theorem z_dcB_ok {cc : ByteArray} {i : z_In} (h : z_dcB cc i = true) : z_dc cc i := by
  obtain ⟨ins, pc, a, b, z⟩ := i
  cases ins
  case tableswitch d lo hi offs =>
    have h' : (match decode cc pc with | .ok q => decide (q.1 = Instr.tableswitch d lo hi offs) | .error _ => false) = true := h
    show ∃ len, decode cc pc = .ok (.tableswitch d lo hi offs, len)
    cases hq : decode cc pc with
    | ok q =>
      rw [hq] at h'
      obtain ⟨q1, q2⟩ := q
      have : q1 = Instr.tableswitch d lo hi offs := of_decide_eq_true h'
      exact ⟨q2, by rw [this]⟩
    | error x => rw [hq] at h'; cases h'
  all_goals simpa only [z_dcB, z_dc, decide_eq_true_eq] using h
def z_gdB (o vp : Nat) (cc : ByteArray) (ini rz : Bool) (ret : Option FieldType) (tbe hde : Bool) : List z_In → Nat → Nat → Bool
  | [], pc, nx => decide (pc = nx)
  | i :: is, pc, nx => decide (i.2.1 = pc) && z_dcB cc i && z_lkB o vp cc ini rz ret tbe hde i && z_gdB o vp cc ini rz ret tbe hde is (pc + z_len i.1) nx
theorem z_gdB_ok {o vp : Nat} {cc : ByteArray} {ini rz : Bool} {ret : Option FieldType} {tbe hde : Bool} {tb : List (Nat × Nat × Nat × Nat)} {hd : List (Nat × Nat)} (ht : tbe = true → tb = []) (hh : hde = true → hd = []) (hh2 : hd = [] → hde = true) (hx : hde = false → ∀ k h, hd.lookup k = some h → z_hx (z_ow o) tb vp k h) :
    ∀ (is : List z_In) (pc nx : Nat), z_gdB o vp cc ini rz ret tbe hde is pc nx = true → z_gd z_mi (z_ow o) cc ini rz ret tb hd is pc nx := by
  intro is
  induction is with
  | nil =>
    intro pc nx h
    have h' : decide (pc = nx) = true := h
    show pc = nx
    exact of_decide_eq_true h'
  | cons i is ih =>
    intro pc nx h
    simp only [z_gdB, Bool.and_eq_true, decide_eq_true_eq] at h
    obtain ⟨⟨⟨w1, w2⟩, w3⟩, w4⟩ := h
    exact ⟨w1, z_dcB_ok w2, z_lkB_ok ht hh hh2 hx w3, ih _ _ w4⟩
/-- a method's blocks, checked -/
abbrev z_Bk : Type := List (Nat × List Bool × List z_In × Nat)
def z_okB (o vp j : Nat) (md : Bool × List (Nat × Nat) × Nat) (bl : z_Bk) : Bool :=
  decide ((z_mi j).1.cls = z_ow o) && plainFor (z_mi j).1 && decide (md.2.2 = (z_mi j).2.2.1) && bl.all (fun q => decide (q.2.1.length = (z_mi j).2.2.1) && z_gdB o vp (z_mi j).2.1 (decide ((z_mi j).1.name = "<init>")) md.1 (z_mi j).2.2.2.1 (decide ((z_mi j).2.2.2.2.2 = [])) (decide (md.2.1 = [])) q.2.2.1 q.1 q.2.2.2)
theorem z_okB_ok {mt : Nat → z_Md} {o vp j : Nat} {md : Bool × List (Nat × Nat) × Nat} {bl : z_Bk} (hm : mt j = (md.1, md.2.1, (fun t => bl.lookup t), md.2.2)) (hx : ¬ md.2.1 = [] → ∀ k h, md.2.1.lookup k = some h → z_hx (z_ow o) (z_mi j).2.2.2.2.2 vp k h) (h : z_okB o vp j md bl = true) : z_gm z_mi mt j := by
  simp only [z_okB, Bool.and_eq_true, decide_eq_true_eq] at h
  obtain ⟨⟨⟨w1, w2⟩, w3⟩, w4⟩ := h
  refine ⟨w2, by rw [hm]; exact w3, fun t b hb => ?_⟩
  rw [hm] at hb ⊢
  have hmem : (t, b) ∈ bl := z_lookup_mem hb
  have h9 := List.all_eq_true.mp w4 _ hmem
  simp only [Bool.and_eq_true, decide_eq_true_eq] at h9
  refine ⟨h9.1, ?_⟩
  rw [w1]
  exact z_gdB_ok (fun q => of_decide_eq_true q) (fun q => of_decide_eq_true q) (fun q => decide_eq_true q) (fun q => hx (of_decide_eq_false q)) _ _ _ h9.2
/-- one block of a long text, checked by itself -/
def z_bkB (o vp j : Nat) (md : Bool × List (Nat × Nat) × Nat) (q : Nat × List Bool × List z_In × Nat) : Bool :=
  decide (q.2.1.length = (z_mi j).2.2.1) && z_gdB o vp (z_mi j).2.1 (decide ((z_mi j).1.name = "<init>")) md.1 (z_mi j).2.2.2.1 (decide ((z_mi j).2.2.2.2.2 = [])) (decide (md.2.1 = [])) q.2.2.1 q.1 q.2.2.2
theorem z_okC_ok {mt : Nat → z_Md} {o vp j : Nat} {md : Bool × List (Nat × Nat) × Nat} {bl : z_Bk} (hm : mt j = (md.1, md.2.1, (fun t => bl.lookup t), md.2.2)) (hx : ¬ md.2.1 = [] → ∀ k h, md.2.1.lookup k = some h → z_hx (z_ow o) (z_mi j).2.2.2.2.2 vp k h) (h0 : z_okB o vp j md [] = true) (h : ∀ q ∈ bl, z_bkB o vp j md q = true) : z_gm z_mi mt j := by
  refine z_okB_ok (o := o) (vp := vp) hm hx ?_
  simp only [z_okB, Bool.and_eq_true, decide_eq_true_eq] at h0 ⊢
  exact ⟨h0.1, List.all_eq_true.mpr fun q hq => h q hq⟩
