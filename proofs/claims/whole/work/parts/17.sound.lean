/-! ===== what is asked of a method's text, an instruction, a block; the machine of numbers tells the machine ===== -/
/-- the row of the table that takes the exception k at pc goes to h -/
def z_hx (own : String) (tb : List (Nat × Nat × Nat × Nat)) (pc k h : Nat) : Prop :=
  ∃ (pre : List ExceptionTableEntry) (x : ExceptionTableEntry) (suf : List ExceptionTableEntry), tableOf tb = pre ++ x :: suf ∧ x.handlerPc = h ∧ covers x pc = true ∧ x.catchType ≠ 0 ∧ Jvm.Cond.classLink own x.catchType (z_En k) ∈ z_W0 ∧ Jvm.Cond.castable (z_En k) (z_En k) ∈ lw_tbl ∧
    ∀ z ∈ pre, z.catchType ≠ 0 ∧ ∃ j, Jvm.Cond.classLink own z.catchType (z_En j) ∈ z_W0 ∧ ((k = 0 ∧ (j = 1 ∨ j = 2)) ∨ (k = 2 ∧ j = 1))
def z_lk (mt : Nat → z_Mi) (own : String) (cc : ByteArray) (ini rz : Bool) (ret : Option FieldType) (tb : List (Nat × Nat × Nat × Nat)) (hd : List (Nat × Nat)) (i : z_In) : Prop := match i.1 with
  | .bipush n => (Int8.ofInt n).toInt = n
  | .sipush n => (Int16.ofInt n).toInt = n
  | .ldc idx => if i.2.2.1 = 1 then own = "LacedHoles$Boot" ∧ (z_Wrd.getD i.2.2.2.1 (0, "")).1 = idx else Jvm.Cond.constant own idx (Int32.ofInt i.2.2.2.2) ∈ z_W0
  | .ldc_w idx => Jvm.Cond.constant own idx (Int32.ofInt i.2.2.2.2) ∈ z_W0
  | .ldc2_w idx => Jvm.Cond.constantLong own idx (Int64.ofInt i.2.2.2.2) ∈ z_W0
  | .goto off => (i.2.1 : Int) + off = (z_tg i off : Int)
  | .if_icmp _ off => (i.2.1 : Int) + off = (z_tg i off : Int)
  | .ifCond _ off => (i.2.1 : Int) + off = (z_tg i off : Int)
  | .ifnonnull off => (i.2.1 : Int) + off = (z_tg i off : Int)
  | .tableswitch d _ _ offs => (i.2.1 : Int) + d = (z_tg i d : Int) ∧ ∀ off ∈ offs, (i.2.1 : Int) + off = (z_tg i off : Int)
  | .getfield idx => ∃ C T N, vwCl[i.2.2.1]? = some (C, T, N) ∧ i.2.2.2.1 < N ∧ Jvm.Cond.fieldLink own idx (T i.2.2.2.1).1 (T i.2.2.2.1).2.1 (T i.2.2.2.1).2.2.1 ∈ z_W0
  | .putfield idx => ∃ C T N, vwCl[i.2.2.1]? = some (C, T, N) ∧ i.2.2.2.1 < N ∧ Jvm.Cond.fieldLink own idx (T i.2.2.2.1).1 (T i.2.2.2.1).2.1 (T i.2.2.2.1).2.2.1 ∈ z_W0 ∧ ((T i.2.2.2.1).2.2.2 = true → ini = true ∧ (T i.2.2.2.1).1 = own)
  | .newarray _ => Jvm.Cond.arrayClass .int ∈ z_W0 ∧ Jvm.Cond.arrayClass .long ∈ z_W0
  | .anewarray idx => Jvm.Cond.classLink own idx "LacedHoles$Scene" ∈ z_W0 ∧ Jvm.Cond.arrayOver (.object "LacedHoles$Scene") ∈ lw_tbl
  | .multianewarray idx dim => dim = 2 ∧ Jvm.Cond.classLink own idx ("[" ++ (FieldType.array .int).toString) ∈ z_W0 ∧ Jvm.Cond.arrayOver (.array .int) ∈ lw_tbl ∧ Jvm.Cond.arrayClass .int ∈ z_W0
  | .new idx => if i.2.2.1 < 50 then ∃ C T N, vwCl[i.2.2.1]? = some (C, T, N) ∧ Jvm.Cond.classLink own idx C ∈ z_W0 ∧ Jvm.Cond.instantiable C N ∈ z_W0 ∧ Jvm.Cond.initialized C ∈ z_W0
      else own = "LacedHoles" ∧ tb = [] ∧ ∃ (wide : Bool) (is ic : Nat) (tx : String), (i.2.2.1 - 60 = 2 → wide = true) ∧ z_Th (i.2.2.1 - 60) ic ∧ Jvm.Cond.classLink "LacedHoles" idx (z_En (i.2.2.1 - 60)) ∈ z_W0 ∧ (is, tx) ∈ z_Msg ∧ decode cc (i.2.1 + 3) = .ok (.dup, 1) ∧ (if wide = true then decode cc (i.2.1 + 4) = .ok (.ldc_w is, 3) else decode cc (i.2.1 + 4) = .ok (.ldc is, 2)) ∧
        decode cc (i.2.1 + (if wide = true then 7 else 6)) = .ok (.invokespecial ic, 3) ∧ decode cc (i.2.1 + (if wide = true then 10 else 9)) = .ok (.athrow, 1)
  | .invokestatic idx => hd = [] ∧ tb = [] ∧ z_Cm (mt i.2.2.1) i.2.2.2.1 ∧ Jvm.Cond.methodLink own idx (mt i.2.2.1).1 ∈ z_W0 ∧ Jvm.Cond.static (mt i.2.2.1).1 ∈ z_W0
  | .invokevirtual idx => (hd = [] → tb = []) ∧ z_Cm (mt i.2.2.1) i.2.2.2.1 ∧ (mt i.2.2.1).2.2.2.2.2 = [] ∧ Jvm.Cond.methodLink own idx (mt i.2.2.1).1 ∈ z_W0 ∧ Jvm.Cond.instanceMethod (mt i.2.2.1).1 ∈ z_W0 ∧ Jvm.Cond.selects (mt i.2.2.1).1.cls (mt i.2.2.1).1 (mt i.2.2.1).1 ∈ z_W0 ∧
      (∀ k h, hd.lookup k = some h → z_hx own tb i.2.1 k h) ∧ (900 ≤ i.2.2.1 → (mt i.2.2.1).1.cls = "java/lang/String") ∧ (i.2.2.1 < 900 → ∃ T N, vwCl[i.2.2.2.2.toNat % 16]? = some ((mt i.2.2.1).1.cls, T, N))
  | .invokespecial idx => if i.2.2.1 = 999 then Jvm.Cond.methodLink own idx Lib.objectInit ∈ z_W0 ∧ Jvm.Cond.instanceMethod Lib.objectInit ∈ z_W0 ∧ Jvm.Cond.code Lib.objectInit ⟨#[0xb1]⟩ 1 none ∈ z_W0
      else hd = [] ∧ tb = [] ∧ z_Cm (mt i.2.2.1) i.2.2.2.1 ∧ (mt i.2.2.1).2.2.2.2.2 = [] ∧ (mt i.2.2.1).2.2.2.1 = none ∧ (mt i.2.2.1).1.name = "<init>" ∧ (Jvm.Cond.methodLink own idx (mt i.2.2.1).1 ∈ z_W0 ∨ ∃ host, Jvm.Cond.methodLinkNest own idx (mt i.2.2.1).1 host ∈ lw_tbl) ∧ Jvm.Cond.instanceMethod (mt i.2.2.1).1 ∈ z_W0
  | .ireturn => (ret = some .int ∧ rz = false) ∨ (ret = some .boolean ∧ rz = true)
  | .lreturn => ret = some .long
  | .return_ => ret = none
  | _ => True
def z_dc (cc : ByteArray) (i : z_In) : Prop := match i.1 with
  | .tableswitch _ _ _ _ => ∃ len, decode cc i.2.1 = .ok (i.1, len)
  | _ => decode cc i.2.1 = .ok (i.1, z_len i.1)
def z_gd (mt : Nat → z_Mi) (own : String) (cc : ByteArray) (ini rz : Bool) (ret : Option FieldType) (tb : List (Nat × Nat × Nat × Nat)) (hd : List (Nat × Nat)) : List z_In → Nat → Nat → Prop
  | [], pc, nx => pc = nx
  | i :: is, pc, nx => i.2.1 = pc ∧ z_dc cc i ∧ z_lk mt own cc ini rz ret tb hd i ∧ z_gd mt own cc ini rz ret tb hd is (pc + z_len i.1) nx
section ZSound
variable {p : Program} {l : Launch} {e : Env} {R : Room} {s : State} {m : MethodId} {args : Array Value} {below : List Frame} {meth : Method} {c : Code} {cc : ByteArray} {nL : Nat} {own : String} {base : Nat} {D : va_G} {sp : Nat → Nat} {M0 MF : z_M} {ph1 : Bool} {oF : z_Ot}
theorem z_s_out {pc k : Nat} {ph' : Bool} {L : z_L} {M1 : z_M} (cx : z_Cx p s m args meth c cc nL own) (htb : ∀ x ∈ c.exceptionTable.toList, False) (hX : ph' = ph1 ∧ .inr k = oF ∧ M1 = MF) :
    z_Xm p l e R s m args below meth c (vx_MQ below (z_Qc base D ph1 oF MF) (z_XC base D ph1 oF MF) args s (z_n MF - z_n M0) (z_s MF - z_s M0) (fun q => base ≤ q)) base D sp nL M0 pc k (ph', 0) L M1 := fun τ χ ls H locs cells slots q ce rest h1 h2 h3 h4 h5 hce hcv hcl => by
  obtain ⟨rfl, rfl, rfl⟩ := hX
  exact vx_out (fun x hx => (htb x hx).elim) cx.2.2.2.2.2 hce hcv hcl (fun t ht ha => ⟨⟨k, rfl, rfl⟩, by rw [ht]; exact z_Pic_moved ha (z_Pic_ph h2 (Or.inl rfl)), z_F_of h3 ht⟩) h3.2.2 (by omega) (by omega)
theorem z_s_catch {pc k h : Nat} {ph' : Bool} {L : z_L} {M1 : z_M} {Q : State → Prop} {tb : List (Nat × Nat × Nat × Nat)} (cx : z_Cx p s m args meth c cc nL own) (hex : z_Ex base sp s s.heap) (htb : c.exceptionTable.toList = tableOf tb) (hh : z_hx own tb pc k h) (hL : ∀ v ∈ L, v ≠ some (z_r (some 400000)))
    (hk : z_Wm p l e R s m args below meth c Q base D sp nL M0 h (ph', 0) L [z_r (some 400000)] M1) : z_Xm p l e R s m args below meth c Q base D sp nL M0 pc k (ph', 0) L M1 := fun τ χ ls H locs cells slots q ce rest h1 h2 h3 h4 h5 hce hcv hcl => by
  obtain ⟨pre, x, suf, y1, y2, y3, y4, y5, y6, y7⟩ := hh
  subst y2
  obtain ⟨-, -, -, -, -, n1, n2, n3, -, x10, -⟩ := hex
  have h1' : z_has (z_ad base τ q sp) ls nL L := by
    refine z_has_weak h1.1 h1.2 fun j v hj => z_mem_lo.mpr ⟨j, v, hj, ?_⟩
    have hv : v ≠ z_r (some 400000) := fun z => hL _ (List.mem_of_getElem? hj) (by rw [z])
    have : z_gv (z_ad base τ q sp) v = z_gv (z_ad base τ χ sp) v := by
      rcases v with y | y | _ | a
      · rfl
      · rfl
      · rfl
      · have ha : a ≠ 400000 := fun z => hv (by rw [z])
        show Value.ref _ = Value.ref _
        unfold z_ad
        rw [if_neg ha, if_neg ha]
    rw [this, Nat.zero_add]
  have hq : z_ad base τ q sp 400000 = q := by
    unfold z_ad
    rw [if_neg (by omega), if_neg (by omega), if_pos rfl]
  refine vx_catch cx.2.2.2.1 pre x suf (by rw [htb]; exact y1) (fun z hz => Or.inr ?_) y3 y4 (cx.2.2.2.2.1 _ y5) (z_wk_use rfl (x10 _ y6 rfl)) hce hcv hcl ?_
  · obtain ⟨w1, j, w2, w3⟩ := y7 z hz
    refine ⟨w1, z_En j, cx.2.2.2.2.1 _ w2, ?_⟩
    rcases w3 with ⟨rfl, rfl | rfl⟩ | ⟨rfl, rfl⟩
    · exact n1
    · exact n2
    · exact n3
  · have hgo := hk τ q ls H locs cells slots h1' h2 h3 h4 h5
    have hgo2 : W p l e R s m args below meth c H locs cells slots Q (F0 m x.handlerPc ls [.ref (z_ad base τ q sp 400000)]) := hgo
    rw [hq] at hgo2
    exact hgo2
theorem z_one_sound {mt : Nat → z_Mi} {ini rz : Bool} {ret : Option FieldType} {tb : List (Nat × Nat × Nat × Nat)} {hd : List (Nat × Nat)} {C : Bool → Nat → List z_Av → z_M → Bool → z_Ot → z_M → Prop} {J : Nat → z_P → z_L → List z_Av → z_M → Prop} {d : Nat}
    (cx : z_Cx p s m args meth c cc nL own) (hex : z_Ex base sp s s.heap) (hl : l.stackTraces = false) (hini : ini = true → meth.name = "<init>") (hret : meth.sig.returnType = ret) (htb : c.exceptionTable.toList = tableOf tb)
    (hRf : d + 9 ≤ R.frames) (hRl : 40 * d + 160 ≤ R.locals) (hRc : z_n MF ≤ R.cells + z_n M0) (hRs : z_s MF ≤ R.slots + z_s M0)
    (hC : ∀ ph j As M ph1 o M1, C ph j As M ph1 o M1 → (z_n M ≤ z_n M1 ∧ z_s M ≤ z_s M1) ∧ z_Ct l base D sp (mt j) d ph As M ph1 o M1)
    {i : z_In} (hdc : z_dc cc i) (hlk : z_lk mt own cc ini rz ret tb hd i) {k : z_P → z_L → List z_Av → z_M → Prop} {P : z_P} {L : z_L} {S : List z_Av} {M : z_M} (hP : P.2 ≤ 1000000)
    (hle : ∀ P L S M, k P L S M → z_n M ≤ z_n MF ∧ z_s M ≤ z_s MF) (hleJ : ∀ t P L S M, J t P L S M → z_n M ≤ z_n MF ∧ z_s M ≤ z_s MF)
    (h : z_one sp rz hd C J (fun ph' o' M' => ph' = ph1 ∧ o' = oF ∧ M' = MF) i P L S M k)
    (hk : ∀ P L S M, P.2 ≤ 1000000 → k P L S M → z_Wm p l e R s m args below meth c (vx_MQ below (z_Qc base D ph1 oF MF) (z_XC base D ph1 oF MF) args s (z_n MF - z_n M0) (z_s MF - z_s M0) (fun q => base ≤ q)) base D sp nL M0 (i.2.1 + z_len i.1) P L S M)
    (hJ : ∀ t P L S M, P.2 ≤ 1000000 → J t P L S M → z_Wm p l e R s m args below meth c (vx_MQ below (z_Qc base D ph1 oF MF) (z_XC base D ph1 oF MF) args s (z_n MF - z_n M0) (z_s MF - z_s M0) (fun q => base ≤ q)) base D sp nL M0 t P L S M) :
    z_Wm p l e R s m args below meth c (vx_MQ below (z_Qc base D ph1 oF MF) (z_XC base D ph1 oF MF) args s (z_n MF - z_n M0) (z_s MF - z_s M0) (fun q => base ≤ q)) base D sp nL M0 i.2.1 P L S M := by
  obtain ⟨ins, pc, a, b, z⟩ := i
  have hback : ∀ (ph2 : Bool) (o1 : z_Ot) (M1 : z_M) (r : List z_Av), z_back hd J (fun ph' o' M' => ph' = ph1 ∧ o' = oF ∧ M' = MF) k ph2 L r M1 o1 → (z_n M1 ≤ z_n MF ∧ z_s M1 ≤ z_s MF) := by
    intro ph2 o1 M1 r hb
    unfold z_back at hb
    cases o1 with
    | inl v => exact hle _ _ _ _ hb
    | inr ex =>
      dsimp only at hb
      cases hh : hd.lookup ex with
      | some t => rw [hh] at hb; exact hleJ _ _ _ _ _ hb.2
      | none => rw [hh] at hb; rw [hb.2.2.2]; exact ⟨Nat.le_refl _, Nat.le_refl _⟩
  have hnotb : hd = [] → tb = [] → ∀ x ∈ c.exceptionTable.toList, False := by
    intro _ h2 x hx
    rw [htb, h2] at hx
    cases hx
  cases ins
  case nop => exact h.elim
  case newarray t =>
    rcases h with ⟨x, r, rfl, h1, h2, h3, rfl, h4, h⟩ | ⟨x, r, rfl, h1, h2, h3, rfl, h4, h⟩ | ⟨x, r, rfl, h1, h2, h3, rfl, h4, h5, h⟩
    · have g := hle _ _ _ _ h
      exact z_s_newI cx hdc hlk.1 h1 h2 h3 h4 (Nat.le_trans g.1 hRc) (Nat.le_trans g.2 hRs) (hk _ _ _ _ hP h)
    · have g := hle _ _ _ _ h
      exact z_s_newJ cx hdc hlk.2 h1 h2 h3 h4 (Nat.le_trans g.1 hRc) (Nat.le_trans g.2 hRs) (hk _ _ _ _ hP h)
    · have g := hle _ _ _ _ h
      exact z_s_newT cx hdc hlk.1 h1 h2 h3 h4 h5 (Nat.le_trans g.1 hRc) (Nat.le_trans g.2 hRs) (hk _ _ _ _ h3 h)
  case anewarray t =>
    obtain ⟨x, r, rfl, h1, h2, h3, h4, h⟩ := h
    have g := hle _ _ _ _ h
    exact z_s_newQ cx hdc hlk.1 (z_wk_use rfl (hex.2.2.2.2.2.2.2.2.2.1 _ hlk.2 rfl)) h1 h2 h3 h4 (Nat.le_trans g.1 hRc) (Nat.le_trans g.2 hRs) (hk _ _ _ _ hP h)
  case multianewarray t u =>
    obtain ⟨x, y, r, rfl, h1, h2, h3, h4, h5, h6, h⟩ := h
    obtain ⟨rfl, w1, w2, w3⟩ := hlk
    have g := hle _ _ _ _ h
    exact z_s_multi cx hdc w1 (z_wk_use rfl (hex.2.2.2.2.2.2.2.2.2.1 _ w2 rfl)) w3 h1 h2 h3 h4 h5 h6 (Nat.le_trans g.1 hRc) (Nat.le_trans g.2 hRs) (hk _ _ _ _ hP h)
  case new t =>
    have h' : if a < 50 then _ else _ := h
    have hlk' : if a < 50 then _ else _ := hlk
    by_cases ha : a < 50
    · rw [if_pos ha] at h' hlk'
      obtain ⟨h1, h2, h3, h⟩ := h'
      obtain ⟨C9, T9, N9, w1, w2, w3, w4⟩ := hlk'
      have g := hle _ _ _ _ h
      exact z_s_new cx hdc w1 w2 w3 w4 h1 h2 h3 (Nat.le_trans g.1 hRc) (Nat.le_trans g.2 hRs) (hk _ _ _ _ hP h)
    · rw [if_neg ha] at h' hlk'
      obtain ⟨h1, h2, h3⟩ := h'
      obtain ⟨w1, w2, wide, is, ic, tx, w0, w3, w4, w5, w6, w7, w8, w9⟩ := hlk'
      have g1 : z_n M + 1 = z_n MF := by rw [← h3.2.2]
      have g2 : z_s M + 6 = z_s MF := by rw [← h3.2.2]
      exact z_s_throw cx hex hl w1 w0 w3 w4 w5 hdc w6 w7 w8 w9 (fun x hx => by rw [htb, w2] at hx; cases hx) h2 (by omega) (by omega) (by omega) (by omega) h1 h3
  case invokestatic t =>
    obtain ⟨As, r, o1, M1, ph, ph2, rfl, hn, -, hph, hc, hcat, hb⟩ := (h : z_call hd C J _ (fun _ => True) k a b P L S M)
    obtain ⟨w1, w2, w3, w4, w5⟩ := hlk
    obtain ⟨c1, c2⟩ := hC _ _ _ _ _ _ _ hc
    obtain ⟨g1, g2⟩ := hback _ _ _ _ hb
    have hkk : ∀ v, o1 = .inl v → k (ph2, 0) L (v.toList ++ r) M1 := fun v hv => by rw [hv] at hb; exact hb
    have hxx : ∀ k9, o1 = .inr k9 → z_Xm p l e R s m args below meth c _ base D sp nL M0 pc k9 (ph2, 0) L M1 := fun k9 hv => by
      rw [hv] at hb
      have hb2 : match hd.lookup k9 with | some t => (∀ v ∈ L, v ≠ some (z_r (some 400000))) ∧ J t (ph2, 0) L [z_r (some 400000)] M1 | none => hd = [] ∧ (ph2 = ph1 ∧ .inr k9 = oF ∧ M1 = MF) := hb
      rw [w1] at hb2
      exact z_s_out cx (hnotb w1 w2) hb2.2
    by_cases ht : (mt a).2.2.2.2.2 = []
    · exact z_s_callS cx hex hdc (by rw [hn]; exact w3) ht w4 w5 c2 hph hcat hRf hRl c1 (Nat.le_trans g1 hRc) (Nat.le_trans g2 hRs) (fun v hv => hk _ _ _ _ (Nat.zero_le _) (hkk v hv)) hxx
    · exact z_s_callSX cx hex hdc (by rw [hn]; exact w3) ht w4 w5 c2 hph hcat hRf hRl c1 (Nat.le_trans g1 hRc) (Nat.le_trans g2 hRs) (fun v hv => hk _ _ _ _ (Nat.zero_le _) (hkk v hv)) hxx
  case invokevirtual t =>
    obtain ⟨As, r, o1, M1, ph, ph2, rfl, hn, hG, hph, hc, hcat, hb⟩ := (h : z_call hd C J _ (fun As => (900 ≤ a ∧ ∃ k v, k < 5 ∧ As = z_r (some (500000 + k)) :: v) ∨ a < 900 ∧ ∃ a v, As = z_r (some a) :: v ∧ z_kd P M a = (z.toNat % 16, 0)) k a (b + 1) P L S M)
    obtain ⟨w0, w1, w2, w3, w4, w5, w6, w7, w8⟩ := hlk
    obtain ⟨c1, c2⟩ := hC _ _ _ _ _ _ _ hc
    obtain ⟨g1, g2⟩ := hback _ _ _ _ hb
    have hkk : ∀ v, o1 = .inl v → k (ph2, 0) L (v.toList ++ r) M1 := fun v hv => by rw [hv] at hb; exact hb
    have hxx : ∀ k9, o1 = .inr k9 → z_Xm p l e R s m args below meth c _ base D sp nL M0 pc k9 (ph2, 0) L M1 := fun k9 hv => by
      rw [hv] at hb
      have hb2 : match hd.lookup k9 with | some t => (∀ v ∈ L, v ≠ some (z_r (some 400000))) ∧ J t (ph2, 0) L [z_r (some 400000)] M1 | none => hd = [] ∧ (ph2 = ph1 ∧ .inr k9 = oF ∧ M1 = MF) := hb
      cases hh : hd.lookup k9 with
      | none => rw [hh] at hb2; exact z_s_out cx (hnotb hb2.1 (w0 hb2.1)) hb2.2
      | some t => rw [hh] at hb2; exact z_s_catch cx hex htb (w6 k9 t hh) hb2.1 (hJ _ _ _ _ _ (Nat.zero_le _) hb2.2)
    have hlen : ∀ (x : z_Av) (v : List z_Av), As.reverse = x :: v → v.length = b := fun x v hv => by
      have := congrArg List.length hv
      rw [List.length_reverse] at this
      simp at this
      have hn' : As.length = b + 1 := hn
      omega
    rcases hG with ⟨h900, j, v, hj, hA⟩ | ⟨ha9, a9, v, hA, hkd⟩
    · refine z_s_callV cx hex hdc hA (by rw [hlen _ _ hA]; exact w1) w2 w3 w4 w5 (fun τ χ H hPic hEx => ?_) c2 hph hcat hRf hRl c1 (Nat.le_trans g1 hRc) (Nat.le_trans g2 hRs) (fun v hv => hk _ _ _ _ (Nat.zero_le _) (hkk v hv)) hxx
      obtain ⟨-, -, -, -, -, -, -, -, ⟨adV, hS⟩, -⟩ := hEx
      obtain ⟨cell, q1, q2, q3, -⟩ := (hS.1.1 j hj).1
      refine ⟨cell, ?_, q2, by rw [w7 h900]; exact q3⟩
      have : z_ad base τ χ sp (500000 + j) = sp (500000 + j) := by
        unfold z_ad
        rw [if_neg (by omega), if_neg (by omega), if_neg (by omega)]
      rw [this]
      exact q1
    · refine z_s_callV cx hex hdc hA (by rw [hlen _ _ hA]; exact w1) w2 w3 w4 w5 (fun τ χ H hPic hEx => ?_) c2 hph hcat hRf hRl c1 (Nat.le_trans g1 hRc) (Nat.le_trans g2 hRs) (fun v hv => hk _ _ _ _ (Nat.zero_le _) (hkk v hv)) hxx
      obtain ⟨T9, N9, hc9⟩ := w8 ha9
      have h98 : (z_kd P M a9).1 ≠ 98 := by
        rw [hkd]
        have : z.toNat % 16 < vwCl.length := (List.getElem?_eq_some_iff.mp hc9).1
        have h12 : vwCl.length = 12 := rfl
        show z.toNat % 16 ≠ 98
        omega
      have hcell := hPic.2.2.2.1 a9
      rw [hkd] at hcell
      have hlt : z.toNat % 16 < 50 := by
        have : z.toNat % 16 < vwCl.length := (List.getElem?_eq_some_iff.mp hc9).1
        have h12 : vwCl.length = 12 := rfl
        omega
      obtain ⟨q', g9, cell, y1, y2, y3, -⟩ := hcell.1 hlt
      refine ⟨cell, by rw [z_ad_q hPic h98]; exact y1, by rw [y3]; rfl, ?_⟩
      rw [y2]
      exact (hPic.1.1 _ _ hc9).2.1
  case invokespecial t =>
    have h' : if a = 999 then _ else _ := h
    have hlk' : if a = 999 then _ else _ := hlk
    by_cases ha : a = 999
    · rw [if_pos ha] at h' hlk'
      obtain ⟨a9, r, rfl, hcat, h⟩ := h'
      exact z_s_objInit cx hdc hlk'.1 hlk'.2.1 hlk'.2.2 hcat (by omega) (by omega) (hk _ _ _ _ hP h)
    · rw [if_neg ha] at h' hlk'
      obtain ⟨As, r, o1, M1, ph, ph2, rfl, hn, ⟨a9, v, hA⟩, hph, hc, hcat, hb⟩ := h'
      obtain ⟨w1, w2, w3, w4, w5, w6, w7, w8⟩ := hlk'
      obtain ⟨c1, c2⟩ := hC _ _ _ _ _ _ _ hc
      have hlen : v.length = b := by
        have := congrArg List.length hA
        rw [List.length_reverse] at this
        simp at this
        have hn' : As.length = b + 1 := hn
        omega
      cases o1 with
      | inl v1 =>
        have hb2 : k (ph2, 0) L (v1.toList ++ r) M1 := hb
        obtain ⟨g1, g2⟩ := hle _ _ _ _ hb2
        exact z_s_callI cx hex hdc hA (by rw [hlen]; exact w3) w4 w5 w6 w7 w8 rfl c2 hph hcat hRf hRl c1 (Nat.le_trans g1 hRc) (Nat.le_trans g2 hRs) (fun v hv => hk _ _ _ _ (Nat.zero_le _) (by cases hv; exact hb2))
      | inr k9 => exact (show [] = [] ∧ False from hb).2.elim
  case putfield t =>
    obtain ⟨C9, T9, N9, w1, w2, w3, w4⟩ := hlk
    rcases h with ⟨x, y, r, rfl, h1, h2, h⟩ | ⟨x, y, r, rfl, h1, h2, h3, h⟩
    · exact z_s_putI cx hdc w1 w2 w3 h1 (fun q => ⟨hini (w4 q).1, (w4 q).2⟩) h2 (hk _ _ _ _ hP h)
    · exact z_s_putR cx hdc w1 w2 w3 h1 (fun q => ⟨hini (w4 q).1, (w4 q).2⟩) h2 h3 (hk _ _ _ _ hP h)
  case getfield t =>
    obtain ⟨C9, T9, N9, w1, w2, w3⟩ := hlk
    obtain ⟨x, r, rfl, h1, h⟩ := h
    exact z_s_getfield cx hdc w1 w2 w3 h1 (hk _ _ _ _ hP h)
  case if_icmp cd off =>
    obtain ⟨x, y, r, rfl, h1, h2⟩ := h
    cases cd
    · exact z_s_icmp_eq cx hdc hlk (fun q => hJ _ _ _ _ _ hP (h1 q)) (fun q => hk _ _ _ _ hP (h2 q))
    · exact z_s_icmp_ne cx hdc hlk (fun q => hJ _ _ _ _ _ hP (h1 q)) (fun q => hk _ _ _ _ hP (h2 q))
    · exact z_s_icmp_lt cx hdc hlk (fun q => hJ _ _ _ _ _ hP (h1 q)) (fun q => hk _ _ _ _ hP (h2 q))
    · exact z_s_icmp_ge cx hdc hlk (fun q => hJ _ _ _ _ _ hP (h1 q)) (fun q => hk _ _ _ _ hP (h2 q))
    · exact z_s_icmp_gt cx hdc hlk (fun q => hJ _ _ _ _ _ hP (h1 q)) (fun q => hk _ _ _ _ hP (h2 q))
    · exact z_s_icmp_le cx hdc hlk (fun q => hJ _ _ _ _ _ hP (h1 q)) (fun q => hk _ _ _ _ hP (h2 q))
  case ifCond cd off =>
    obtain ⟨x, r, rfl, h1, h2⟩ := h
    cases cd
    · exact z_s_if_eq cx hdc hlk (fun q => hJ _ _ _ _ _ hP (h1 q)) (fun q => hk _ _ _ _ hP (h2 q))
    · exact z_s_if_ne cx hdc hlk (fun q => hJ _ _ _ _ _ hP (h1 q)) (fun q => hk _ _ _ _ hP (h2 q))
    · exact z_s_if_lt cx hdc hlk (fun q => hJ _ _ _ _ _ hP (h1 q)) (fun q => hk _ _ _ _ hP (h2 q))
    · exact z_s_if_ge cx hdc hlk (fun q => hJ _ _ _ _ _ hP (h1 q)) (fun q => hk _ _ _ _ hP (h2 q))
    · exact z_s_if_gt cx hdc hlk (fun q => hJ _ _ _ _ _ hP (h1 q)) (fun q => hk _ _ _ _ hP (h2 q))
    · exact z_s_if_le cx hdc hlk (fun q => hJ _ _ _ _ _ hP (h1 q)) (fun q => hk _ _ _ _ hP (h2 q))
  case tableswitch dd lo hi offs =>
    obtain ⟨len, hdc⟩ := hdc
    obtain ⟨x, r, rfl, h1, h2⟩ := h
    exact z_s_table (tg := fun off => z_tg (.tableswitch dd lo hi offs, pc, a, b, z) off) cx hdc hlk.1 hlk.2 (fun q => hJ _ _ _ _ _ hP (h1 q)) (fun q1 q2 => by
      obtain ⟨off, y1, y2⟩ := h2 q1 q2
      exact ⟨off, y1, hJ _ _ _ _ _ hP y2⟩)
  case ldc t =>
    have h' : if a = 1 then _ else _ := h
    have hlk' : if a = 1 then _ else _ := hlk
    by_cases ha : a = 1
    · rw [if_pos ha] at h' hlk'
      exact z_s_ldcS cx hex hdc hlk'.1 h'.1 hlk'.2 (hk _ _ _ _ hP h'.2)
    · rw [if_neg ha] at h' hlk'
      exact z_s_ldc cx hdc hlk' (hk _ _ _ _ hP h')
  case ldc_w t => exact z_s_ldc_w cx hdc hlk (hk _ _ _ _ hP h)
  case ldc2_w t => exact z_s_ldc2_w cx hdc hlk (hk _ _ _ _ hP h)
  case bipush t => exact z_s_bipush cx hdc hlk (hk _ _ _ _ hP h)
  case sipush t => exact z_s_sipush cx hdc hlk (hk _ _ _ _ hP h)
  case iconst t => exact z_s_iconst cx hdc (hk _ _ _ _ hP h)
  case lconst t => exact z_s_lconst cx hdc (hk _ _ _ _ hP h)
  case iload n => obtain ⟨x, hx, h⟩ := h; exact z_s_iload cx hdc hx (hk _ _ _ _ hP h)
  case iload_n n => obtain ⟨x, hx, h⟩ := h; exact z_s_iload_n cx hdc hx (hk _ _ _ _ hP h)
  case lload n => obtain ⟨x, hx, h⟩ := h; exact z_s_lload cx hdc hx (hk _ _ _ _ hP h)
  case lload_n n => obtain ⟨x, hx, h⟩ := h; exact z_s_lload_n cx hdc hx (hk _ _ _ _ hP h)
  case aload n => obtain ⟨x, hx, h⟩ := h; exact z_s_aload cx hdc hx (hk _ _ _ _ hP h)
  case aload_n n => obtain ⟨x, hx, h⟩ := h; exact z_s_aload_n cx hdc hx (hk _ _ _ _ hP h)
  case istore n => obtain ⟨x, r, rfl, hx, h⟩ := h; exact z_s_istore cx hdc hx (hk _ _ _ _ hP h)
  case istore_n n => obtain ⟨x, r, rfl, hx, h⟩ := h; exact z_s_istore_n cx hdc hx (hk _ _ _ _ hP h)
  case lstore n => obtain ⟨x, r, rfl, hx, h⟩ := h; exact z_s_lstore cx hdc hx (hk _ _ _ _ hP h)
  case lstore_n n => obtain ⟨x, r, rfl, hx, h⟩ := h; exact z_s_lstore_n cx hdc hx (hk _ _ _ _ hP h)
  case astore n => obtain ⟨x, r, rfl, hx, h⟩ := h; exact z_s_astore cx hdc hx (hk _ _ _ _ hP h)
  case astore_n n => obtain ⟨x, r, rfl, hx, h⟩ := h; exact z_s_astore_n cx hdc hx (hk _ _ _ _ hP h)
  case iinc n dd => obtain ⟨x, hx, h⟩ := h; exact z_s_iinc cx hdc hx (hk _ _ _ _ hP h)
  case iadd => obtain ⟨x, y, r, rfl, h⟩ := h; exact z_s_iadd cx hdc (hk _ _ _ _ hP h)
  case isub => obtain ⟨x, y, r, rfl, h⟩ := h; exact z_s_isub cx hdc (hk _ _ _ _ hP h)
  case imul => obtain ⟨x, y, r, rfl, h⟩ := h; exact z_s_imul cx hdc (hk _ _ _ _ hP h)
  case ineg => obtain ⟨x, r, rfl, h⟩ := h; exact z_s_ineg cx hdc (hk _ _ _ _ hP h)
  case idiv => obtain ⟨x, y, r, rfl, hy, h⟩ := h; exact z_s_idiv cx hdc hy (hk _ _ _ _ hP h)
  case irem => obtain ⟨x, y, r, rfl, hy, h⟩ := h; exact z_s_irem cx hdc hy (hk _ _ _ _ hP h)
  case iand => obtain ⟨x, y, r, rfl, h⟩ := h; exact z_s_iand cx hdc (hk _ _ _ _ hP h)
  case ior => obtain ⟨x, y, r, rfl, h⟩ := h; exact z_s_ior cx hdc (hk _ _ _ _ hP h)
  case ixor => obtain ⟨x, y, r, rfl, h⟩ := h; exact z_s_ixor cx hdc (hk _ _ _ _ hP h)
  case ishl => obtain ⟨x, y, r, rfl, h⟩ := h; exact z_s_ishl cx hdc (hk _ _ _ _ hP h)
  case ishr => obtain ⟨x, y, r, rfl, h⟩ := h; exact z_s_ishr cx hdc (hk _ _ _ _ hP h)
  case iushr => obtain ⟨x, y, r, rfl, h⟩ := h; exact z_s_iushr cx hdc (hk _ _ _ _ hP h)
  case ladd => obtain ⟨x, y, r, rfl, h⟩ := h; exact z_s_ladd cx hdc (hk _ _ _ _ hP h)
  case lsub => obtain ⟨x, y, r, rfl, h⟩ := h; exact z_s_lsub cx hdc (hk _ _ _ _ hP h)
  case lmul => obtain ⟨x, y, r, rfl, h⟩ := h; exact z_s_lmul cx hdc (hk _ _ _ _ hP h)
  case lneg => obtain ⟨x, r, rfl, h⟩ := h; exact z_s_lneg cx hdc (hk _ _ _ _ hP h)
  case ldiv => obtain ⟨x, y, r, rfl, hy, h⟩ := h; exact z_s_ldiv cx hdc hy (hk _ _ _ _ hP h)
  case lrem => obtain ⟨x, y, r, rfl, hy, h⟩ := h; exact z_s_lrem cx hdc hy (hk _ _ _ _ hP h)
  case land => obtain ⟨x, y, r, rfl, h⟩ := h; exact z_s_land cx hdc (hk _ _ _ _ hP h)
  case lor => obtain ⟨x, y, r, rfl, h⟩ := h; exact z_s_lor cx hdc (hk _ _ _ _ hP h)
  case lshl => obtain ⟨x, y, r, rfl, h⟩ := h; exact z_s_lshl cx hdc (hk _ _ _ _ hP h)
  case lshr => obtain ⟨x, y, r, rfl, h⟩ := h; exact z_s_lshr cx hdc (hk _ _ _ _ hP h)
  case lcmp => obtain ⟨x, y, r, rfl, h⟩ := h; exact z_s_lcmp cx hdc (hk _ _ _ _ hP h)
  case i2l => obtain ⟨x, r, rfl, h⟩ := h; exact z_s_i2l cx hdc (hk _ _ _ _ hP h)
  case l2i => obtain ⟨x, r, rfl, h⟩ := h; exact z_s_l2i cx hdc (hk _ _ _ _ hP h)
  case dup => obtain ⟨v, r, rfl, hv, h⟩ := h; exact z_s_dup cx hdc hv (hk _ _ _ _ hP h)
  case dup2 => obtain ⟨v, w, r, rfl, hv, hw, h⟩ := h; exact z_s_dup2 cx hdc hv hw (hk _ _ _ _ hP h)
  case pop => obtain ⟨v, r, rfl, hv, h⟩ := h; exact z_s_pop cx hdc hv (hk _ _ _ _ hP h)
  case goto off => exact z_s_goto cx hdc hlk (hJ _ _ _ _ _ hP h)
  case ifnonnull off => obtain ⟨x, r, rfl, h⟩ := h; exact z_s_ifnonnull cx hdc hlk (hJ _ _ _ _ _ hP h)
  case ireturn =>
    obtain ⟨x, rfl, hz, h⟩ := h
    rcases hlk with ⟨w1, w2⟩ | ⟨w1, w2⟩
    · exact z_s_ireturn cx hdc (by rw [hret]; exact w1) (Or.inl rfl) h
    · exact z_s_ireturn cx hdc (by rw [hret]; exact w1) (Or.inr ⟨rfl, hz w2⟩) h
  case lreturn => obtain ⟨x, rfl, h⟩ := h; exact z_s_lreturn cx hdc (by rw [hret]; exact hlk) h
  case return_ => obtain ⟨rfl, h⟩ := h; exact z_s_return cx hdc (by rw [hret]; exact hlk) h
  case iaload =>
    rcases h with ⟨x, y, r, n, rfl, h1, h2, h3, h⟩ | ⟨y, r, rfl, h2, h3, h4, h⟩
    · exact z_s_iaload cx hdc hP h1 h2 h3 (hk _ _ _ _ hP h)
    · exact z_s_sload cx hdc hex.2.2.2.2.2.2.2.2.2.2.1 (Nat.lt_of_lt_of_le hex.2.2.2.2.2.2.2.2.2.2.2 hex.1) (Nat.not_le.mpr hex.2.2.2.2.2.2.2.2.2.2.2) h2 h3 h4 (hk _ _ _ _ hP h)
  case laload => obtain ⟨x, y, r, n, rfl, h1, h2, h3, h⟩ := h; exact z_s_laload cx hdc hP h1 h2 h3 (hk _ _ _ _ hP h)
  case aaload => obtain ⟨x, y, r, t, n, rfl, h1, h2, h3, h4, h⟩ := h; exact z_s_aaload cx hdc hP h1 h2 h3 h4 (hk _ _ _ _ hP h)
  case iastore => obtain ⟨x, y, v, r, n, rfl, h1, h2, h3, h⟩ := h; exact z_s_iastore cx hdc hP h1 h2 h3 (hk _ _ _ _ hP h)
  case lastore => obtain ⟨x, y, v, r, n, rfl, h1, h2, h3, h⟩ := h; exact z_s_lastore cx hdc hP h1 h2 h3 (hk _ _ _ _ hP h)
  case aastore => obtain ⟨x, y, v, r, n, rfl, h1, h2, h3, h4, h5, h⟩ := h; exact z_s_aastore cx hdc hP h1 h2 h3 h4 h5 (hk _ _ _ _ hP h)
  case arraylength =>
    rcases h with ⟨x, r, t, n, rfl, h1, h2, h3, h⟩ | ⟨r, rfl, h⟩
    · exact z_s_arraylength cx hdc h1 ⟨h2, h3⟩ (hk _ _ _ _ hP h)
    · exact z_s_slen cx hdc hex.2.2.2.2.2.2.2.2.2.2.1 (Nat.lt_of_lt_of_le hex.2.2.2.2.2.2.2.2.2.2.2 hex.1) (Nat.not_le.mpr hex.2.2.2.2.2.2.2.2.2.2.2) (hk _ _ _ _ hP h)
  all_goals exact (h : False).elim
end ZSound
