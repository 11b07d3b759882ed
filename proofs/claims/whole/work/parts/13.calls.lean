/-! ===== contracts out of the machine of numbers; returns, throws, calls ===== -/
/-- a method as the tables have it: name, code, locals, what it returns, how many parameters, its handlers -/
abbrev z_Mi : Type := MethodName × ByteArray × Nat × Option FieldType × Nat × List (Nat × Nat × Nat × Nat)
def z_cw (mi : z_Mi) : Jvm.Cond := if mi.2.2.2.2.2 = [] then .code mi.1 mi.2.1 mi.2.2.1 mi.2.2.2.1 else .codeWith mi.1 mi.2.1 mi.2.2.1 mi.2.2.2.1 mi.2.2.2.2.2
def z_En (k : Nat) : String := match k with
  | 0 => "java/lang/IllegalArgumentException"
  | 1 => "java/lang/IndexOutOfBoundsException"
  | _ => "java/util/NoSuchElementException"
/-- what else a body may use of the state: the statics that a throw reads, the texts, which exceptions are no others -/
def z_StrQ (base : Nat) (sp adV : Nat → Nat) (U : State) (H : Heap) : Prop := vk_S 5 (z_Txt.map List.length) (z_Txt.map fun t => t.map Int32.ofInt) (fun k => sp (500000 + k)) adV (fun q => base ≤ q) U H ∧
  va_Z "java/lang/String" "COMPACT_STRINGS" "Z" (.int 1) (fun q => base ≤ q) U H ∧ va_Zq "jdk/internal/util/Preconditions" "SIOOBE_FORMATTER" "Ljava/util/function/BiFunction;" (fun q => base ≤ q) U H
theorem z_StrQ.moved {base : Nat} {sp adV : Nat → Nat} {u U : State} {H : Heap} (hvm : u.vm.Alike U.vm) (h : z_StrQ base sp adV u H) : z_StrQ base sp adV U H := ⟨h.1.moved hvm, h.2.1.moved hvm, h.2.2.moved hvm⟩
theorem z_StrQ.kept {base : Nat} {sp adV : Nat → Nat} {U : State} {H H1 : Heap} (h : z_StrQ base sp adV U H) (hq : ∀ a : Nat, a < H.size → ¬ base ≤ a → H1[a]? = H[a]?) : z_StrQ base sp adV U H1 := ⟨h.1.kept hq, h.2.1.kept hq, h.2.2.kept hq⟩
def z_StrW (base : Nat) (sp : Nat → Nat) (U : State) (H : Heap) : Prop := ∃ adV, z_StrQ base sp adV U H
/-- words that the state keeps though they are no good words -/
def z_wk : Jvm.Cond → Bool
  | .castable _ _ => true
  | .declares _ => true
  | .methodLinkNest _ _ _ _ => true
  | .arrayOver _ => true
  | _ => false
theorem z_wk_warm {w : Jvm.Cond} {s U : State} (h : z_wk w = true) (hW : s.WarmedH U.vm) (hZ : va_Nw w s) : va_Nw w U := by
  cases w with
  | arrayOver ty => exact (show (Jvm.Cond.arrayOver ty).before #[] (s.setVm U.vm) = true by rw [Cond.arrayOver_setVmC hW.alike]; exact hZ)
  | castable a b => exact va_Nw.warmC hW hZ
  | declares a => exact va_Nw.warmD hW hZ
  | methodLinkNest a b c d => exact va_Nw.warmM hW hZ
  | _ => exact absurd h Bool.false_ne_true
theorem z_wk_same {w : Jvm.Cond} {s U : State} (h : z_wk w = true) (hv : s.vm = U.vm) (hZ : va_Nw w s) : va_Nw w U := by
  cases w with
  | arrayOver ty => exact (show (Jvm.Cond.arrayOver ty).before #[] (s.setVm U.vm) = true by rw [Cond.arrayOver_setVmC (by rw [hv]; exact Vm.Alike.refl _)]; exact hZ)
  | castable a b => exact va_Nw.same rfl hv hZ
  | declares a => exact va_Nw.same rfl hv hZ
  | methodLinkNest a b c d => exact va_Nw.same rfl hv hZ
  | _ => exact absurd h Bool.false_ne_true
theorem z_wk_use {w : Jvm.Cond} {s : State} {args : Array Value} (h : z_wk w = true) (hZ : va_Nw w s) : w.before args s = true := by
  cases w with
  | arrayOver ty => exact hZ
  | castable a b => exact va_Nw.use rfl hZ
  | declares a => exact va_Nw.use rfl hZ
  | methodLinkNest a b c d => exact va_Nw.use rfl hZ
  | _ => exact absurd h Bool.false_ne_true
theorem z_wk_of {w : Jvm.Cond} {s : State} {args : Array Value} (h : z_wk w = true) (hZ : w.before args s = true) : va_Nw w s := by
  cases w with
  | arrayOver ty => exact hZ
  | castable a b => exact va_Nw.of rfl hZ
  | declares a => exact va_Nw.of rfl hZ
  | methodLinkNest a b c d => exact va_Nw.of rfl hZ
  | _ => exact absurd h Bool.false_ne_true
def z_Ex (base : Nat) (sp : Nat → Nat) (U : State) (H : Heap) : Prop :=
  base ≤ H.size ∧ vx_Zq Bundle.tN "UNASSIGNED_STACK" Bundle.steD (fun q => base ≤ q) U H ∧ vx_Zq Bundle.tN "SUPPRESSED_SENTINEL" Bundle.listD (fun q => base ≤ q) U H ∧
  (∀ q ∈ z_Msg, ∃ a, vk_R "LacedHoles" q.1 q.2 a U) ∧ (∀ k, k < 5 → vk_R "LacedHoles$Boot" (z_Wrd.getD k (0, "")).1 (z_Wrd.getD k (0, "")).2 (sp (500000 + k)) U) ∧
  va_Nc (z_En 0) (z_En 1) U ∧ va_Nc (z_En 0) (z_En 2) U ∧ va_Nc (z_En 2) (z_En 1) U ∧ z_StrW base sp U H ∧ (∀ w ∈ lw_tbl, z_wk w = true → va_Nw w U) ∧ va_X (sp 600000) (sp 600001) (fun k => Int32.ofNat (sp (600002 + k))) U H ∧ sp 600000 < base
theorem z_X_to {b L : Nat} {xs : Nat → Int32} {u U : State} {H H1 : Heap} (ha : u.vm.Alike U.vm) (hq : H1[b]? = H[b]?) (h : va_X b L xs u H) : va_X b L xs U H1 := by
  obtain ⟨scr, q1, q2, q3⟩ := h
  exact ⟨scr, hq.trans q1, State.isArrayOf_alike ha q2, q3⟩
theorem z_Ex_to {base : Nat} {sp : Nat → Nat} {s U : State} {H H1 : Heap} (hW : s.WarmedH U.vm) (hz : H.size ≤ H1.size) (hk : ∀ q, q < H.size → ¬ base ≤ q → H1[q]? = H[q]?) (h : z_Ex base sp s H) : z_Ex base sp U H1 := by
  obtain ⟨h1, h2, h3, h4, h5, h6, h7, h8, ⟨adV, h9⟩, h10, h11, h12⟩ := h
  exact ⟨Nat.le_trans h1 hz, (h2.moved hW.alike).kept hk, (h3.moved hW.alike).kept hk, fun q hq => let ⟨a, ha⟩ := h4 q hq; ⟨a, vk_R.warm hW ha⟩, fun k hk => vk_R.warm hW (h5 k hk), h6.moved hW.alike, h7.moved hW.alike, h8.moved hW.alike, ⟨adV, (h9.moved hW.alike).kept hk⟩, fun w hw hq => z_wk_warm hq hW (h10 w hw hq), z_X_to hW.alike (hk _ (by omega) (by omega)) h11, h12⟩
theorem z_Ex_same {base : Nat} {sp : Nat → Nat} {u U : State} {H : Heap} (hv : U.vm = u.vm) (h : z_Ex base sp u H) : z_Ex base sp U H := by
  have ha : u.vm.Alike U.vm := by rw [hv]; exact Vm.Alike.refl _
  obtain ⟨h1, h2, h3, h4, h5, h6, h7, h8, ⟨adV, h9⟩, h10, h11, h12⟩ := h
  exact ⟨h1, h2.moved ha, h3.moved ha, fun q hq => let ⟨a, g⟩ := h4 q hq; ⟨a, vk_R.same hv g⟩, fun k hk => vk_R.same hv (h5 k hk), h6.moved ha, h7.moved ha, h8.moved ha, ⟨adV, h9.moved ha⟩, fun w hw hq => z_wk_same hq hv.symm (h10 w hw hq), z_X_to ha rfl h11, h12⟩
def z_Qc (base : Nat) (D : va_G) (ph1 : Bool) (o : z_Ot) (M1 : z_M) : Array Value → State → Outcome → State → Prop := fun _ st oc t =>
  (∃ v, o = .inl v ∧ (∀ a, v ≠ some (z_r a)) ∧ oc = .returned (v.map (z_gv (fun r => r)))) ∧ z_Pic base D 0 (ph1, 0) M1 t t.heap ∧ va_F (fun q => base ≤ q) st t
def z_XC (base : Nat) (D : va_G) (ph1 : Bool) (o : z_Ot) (M1 : z_M) : String → State → State → Prop := fun E st t =>
  (∃ k, o = .inr k ∧ E = z_En k) ∧ z_Pic base D 0 (ph1, 0) M1 t t.heap ∧ va_F (fun q => base ≤ q) st t
/-- the contract of a method's run -/
def z_Ct (l : Launch) (base : Nat) (D : va_G) (sp : Nat → Nat) (mi : z_Mi) (d : Nat) (ph : Bool) (As : List z_Av) (M : z_M) (ph1 : Bool) (o : z_Ot) (M1 : z_M) : Prop :=
  ∀ τ χ : Nat, vx_Met l mi.1 (z_cw mi :: z_W0) { frames := d + 8, cells := z_n M1 - z_n M, slots := z_s M1 - z_s M, locals := 40 * d + 120 }
    (va_Pc (As.map (z_gv (z_ad base τ χ sp))) (fun U => z_Pic base D τ (ph, 0) M U U.heap ∧ z_Ex base sp U U.heap)) (z_Qc base D ph1 o M1) (z_XC base D ph1 o M1) (z_n M1 - z_n M) (z_s M1 - z_s M) (fun q => base ≤ q)
theorem z_Pic_ph {base τ τ' : Nat} {D : va_G} {P : z_P} {M : z_M} {U : State} {H : Heap} {ph : Bool} (h : z_Pic base D τ P M U H) (hp : ph = P.1 ∨ (ph = true ∧ z_KL.length ≤ z_n M)) : z_Pic base D τ' (ph, 0) M U H := by
  obtain ⟨g1, g2, g3, g4, g5⟩ := h
  refine ⟨g1, fun z => ?_, fun z => ⟨?_, fun y => absurd rfl y⟩, fun a => ?_, g5⟩
  · rcases hp with e | ⟨e, -⟩
    · exact g2 (e.symm.trans z)
    · rw [e] at z; cases z
  · rcases hp with e | ⟨-, e⟩
    · exact (g3 (e.symm.trans z)).1
    · cases hq : P.1 with
      | true => exact (g3 hq).1
      | false => have := (g2 hq).1; omega
  · by_cases ea : a = 300000
    · refine z_cell98 ?_
      unfold z_kd
      rw [if_pos ea, if_neg (fun z => z.2 rfl)]
    · have hkd : z_kd (ph, 0) M a = z_kd P M a := by
        unfold z_kd
        rw [if_neg ea, if_neg ea]
        rcases hp with e | ⟨e1, e2⟩
        · rw [e]
        · cases hq : P.1 with
          | true => rw [e1]
          | false =>
            have := (g2 hq).2
            rw [e1, if_pos (rfl : ((true, 0) : z_P).1 = true), if_neg Bool.false_ne_true, show z_KL.length = z_n M by omega]
      have hq : z_q base τ' a = z_q base τ a := by unfold z_q; rw [if_neg ea, if_neg ea]
      rw [hkd, hq]
      exact g4 a
section ZRet
variable {p : Program} {l : Launch} {e : Env} {R : Room} {s : State} {m : MethodId} {args : Array Value} {below : List Frame} {meth : Method} {c : Code} {Q : State → Prop} {cc : ByteArray} {nL : Nat} {own : String} {base : Nat} {D : va_G} {sp : Nat → Nat} {M0 : z_M}
variable {pc : Nat} {P : z_P} {L : z_L} {S r : List z_Av} {M MF : z_M} {ph1 : Bool} {oF : z_Ot}
theorem z_F_of {H : Heap} {locs : List Loc} (h3 : va_S (fun q => base ≤ q) s.heap H locs) {t : State} (ht : t.heap = H) : va_F (fun q => base ≤ q) s t := ⟨by rw [ht]; exact h3.1, fun q h1 h2 => by rw [ht]; exact h3.2.1 q h1 h2⟩
theorem z_s_ireturn (cx : z_Cx p s m args meth c cc nL own) {x : Int} {ty : FieldType} (hd : decode cc pc = .ok (.ireturn, 1)) (hr : meth.sig.returnType = some ty) (hty : ty = .int ∨ (ty = .boolean ∧ (x = 0 ∨ x = 1))) (hX : P.1 = ph1 ∧ .inl (some (z_i x)) = oF ∧ M = MF) :
    z_Wm p l e R s m args below meth c (vx_MQ below (z_Qc base D ph1 oF MF) (z_XC base D ph1 oF MF) args s (z_n MF - z_n M0) (z_s MF - z_s M0) (fun q => base ≤ q)) base D sp nL M0 pc P L [z_i x] M := fun τ χ ls H locs cells slots h1 h2 h3 h4 h5 => by
  obtain ⟨rfl, rfl, rfl⟩ := hX
  have e1 : z_n M - z_n M0 = cells := by omega
  have e2 : z_s M - z_s M0 = slots := by omega
  rw [e1, e2]
  have hn : narrow ty (.int (Int32.ofInt x)) = .int (Int32.ofInt x) := by
    rcases hty with rfl | ⟨rfl, rfl | rfl⟩
    · rfl
    · decide
    · decide
  exact vx_ret (W.zret cx.1 cx.2.1 hr hn (fun t ht hW => ⟨⟨some (z_i x), rfl, fun a z => (by cases z), rfl⟩, (by rw [ht]; exact z_Pic_moved hW.alike (z_Pic_ph h2 (Or.inl rfl))), z_F_of h3 ht⟩) h3.2.2 hd cx.2.2.2.2.2)
theorem z_s_lreturn (cx : z_Cx p s m args meth c cc nL own) {x : Int} (hd : decode cc pc = .ok (.lreturn, 1)) (hr : meth.sig.returnType = some .long) (hX : P.1 = ph1 ∧ .inl (some (z_l x)) = oF ∧ M = MF) :
    z_Wm p l e R s m args below meth c (vx_MQ below (z_Qc base D ph1 oF MF) (z_XC base D ph1 oF MF) args s (z_n MF - z_n M0) (z_s MF - z_s M0) (fun q => base ≤ q)) base D sp nL M0 pc P L [z_l x] M := fun τ χ ls H locs cells slots h1 h2 h3 h4 h5 => by
  obtain ⟨rfl, rfl, rfl⟩ := hX
  have e1 : z_n M - z_n M0 = cells := by omega
  have e2 : z_s M - z_s M0 = slots := by omega
  rw [e1, e2]
  exact vx_ret (W.lret cx.1 cx.2.1 hr (fun t ht hW => ⟨⟨some (z_l x), rfl, fun a z => (by cases z), rfl⟩, (by rw [ht]; exact z_Pic_moved hW.alike (z_Pic_ph h2 (Or.inl rfl))), z_F_of h3 ht⟩) h3.2.2 hd cx.2.2.2.2.2)
theorem z_s_return (cx : z_Cx p s m args meth c cc nL own) (hd : decode cc pc = .ok (.return_, 1)) (hr : meth.sig.returnType = none) (hX : P.1 = ph1 ∧ .inl none = oF ∧ M = MF) :
    z_Wm p l e R s m args below meth c (vx_MQ below (z_Qc base D ph1 oF MF) (z_XC base D ph1 oF MF) args s (z_n MF - z_n M0) (z_s MF - z_s M0) (fun q => base ≤ q)) base D sp nL M0 pc P L [] M := fun τ χ ls H locs cells slots h1 h2 h3 h4 h5 => by
  obtain ⟨rfl, rfl, rfl⟩ := hX
  have e1 : z_n M - z_n M0 = cells := by omega
  have e2 : z_s M - z_s M0 = slots := by omega
  rw [e1, e2]
  exact vx_ret (W.vret cx.1 cx.2.1 hr (fun t ht hW => ⟨⟨none, rfl, fun a z => (by cases z), rfl⟩, (by rw [ht]; exact z_Pic_moved hW.alike (z_Pic_ph h2 (Or.inl rfl))), z_F_of h3 ht⟩) h3.2.2 hd cx.2.2.2.2.2)
theorem z_s_ldcS (cx : z_Cx p s m args meth c cc nL own) (hex : z_Ex base sp s s.heap) {idx k : Nat} (hd : decode cc pc = .ok (.ldc idx, 2)) (ho : own = "LacedHoles$Boot") (hk : k < 5) (hi : (z_Wrd.getD k (0, "")).1 = idx)
    (h : z_Wm p l e R s m args below meth c Q base D sp nL M0 (pc + 2) P L (z_r (some (500000 + k)) :: S) M) : z_Wm p l e R s m args below meth c Q base D sp nL M0 pc P L S M := fun τ χ ls H locs cells slots h1 h2 h3 h4 h5 => by
  have hg := h τ χ ls H locs cells slots h1 h2 h3 h4 h5
  have hZ := hex.2.2.2.2.1 k hk
  rw [hi, ← ho] at hZ
  have e1 : z_ad base τ χ sp (500000 + k) = sp (500000 + k) := by
    unfold z_ad
    rw [if_neg (by omega), if_neg (by omega), if_neg (by omega)]
  have hg2 : W p l e R s m args below meth c H locs cells slots Q (F0 m (pc + 2) ls (.ref (z_ad base τ χ sp (500000 + k)) :: S.map (z_gv (z_ad base τ χ sp)))) := hg
  rw [e1] at hg2
  exact va_ldcS cx.1 cx.2.1 cx.2.2.2.1 hZ hd hg2
/-- thrown here: how the body goes on -/
def z_Xm (p : Program) (l : Launch) (e : Env) (R : Room) (s : State) (m : MethodId) (args : Array Value) (below : List Frame) (meth : Method) (c : Code) (Q : State → Prop) (base : Nat) (D : va_G) (sp : Nat → Nat) (nL : Nat) (M0 : z_M) (pc : Nat) (k : Nat) (P : z_P) (L : z_L) (M : z_M) : Prop :=
  ∀ (τ χ : Nat) (ls : Array Slot) (H : Heap) (locs : List Loc) (cells slots q : Nat) (ce : Cell) (rest : List Value), z_has (z_ad base τ χ sp) ls nL L → z_Pic base D τ P M s H → va_S (fun q => base ≤ q) s.heap H locs → cells + z_n M0 = z_n M → slots + z_s M0 = z_s M →
    H[q]? = some ce → ce.vm = .none → s.vm.findClass (z_En k) = some ce.cls → vx_W p l e R s m args below meth c H locs cells slots Q (F0 m pc ls rest) q
theorem z_good {ws : List Jvm.Cond} (h : ∀ w ∈ ws, w ∈ z_W0) : GoodIn z_W0 ws := fun w hw => ⟨h w hw, good_of_word (List.mem_filter.mp (h w hw)).2⟩
theorem z_gv_nr (f g : Nat → Nat) {v : Option z_Av} (h : ∀ a, v ≠ some (z_r a)) : v.map (z_gv f) = v.map (z_gv g) := by
  rcases v with _ | x | x | a
  · rfl
  · rfl
  · rfl
  · exact absurd rfl (h a)
/-- behind a call that was run -/
theorem z_behind {M1 : z_M} {o1 : z_Ot} {τ χ : Nat} {ls : Array Slot} {H : Heap} {locs : List Loc} {cells slots : Nat} {st0 : List Value} {a : Array Value}
    (hr : vx_Run p l e R s m args below meth c H locs cells slots (z_n M1 - z_n M) (z_s M1 - z_s M) (F0 m pc ls st0) (r.map (z_gv (z_ad base τ χ sp))) (z_Qc base D ph1 o1 M1 a) (z_XC base D ph1 o1 M1) (fun q => base ≤ q))
    (h1 : z_has (z_ad base τ χ sp) ls nL L) (h3 : va_S (fun q => base ≤ q) s.heap H locs) (h4 : cells + z_n M0 = z_n M) (h5 : slots + z_s M0 = z_s M) (hmono : z_n M ≤ z_n M1 ∧ z_s M ≤ z_s M1)
    (hk : ∀ v, o1 = .inl v → z_Wm p l e R s m args below meth c Q base D sp nL M0 (pc + 3) (ph1, 0) L (v.toList ++ r) M1) (hx : ∀ k, o1 = .inr k → z_Xm p l e R s m args below meth c Q base D sp nL M0 pc k (ph1, 0) L M1) :
    W p l e R s m args below meth c H locs cells slots Q (F0 m pc ls st0) := by
  intro T hT X
  rcases hr T hT X with ⟨v, st₀, t, T', L9, h0, X', hL, e1, e2, ⟨⟨v1, ho, hnr, hv⟩, hP, hF⟩, st⟩ | ⟨q, st₀, t, T', L9, E, ce, h0, X', hL, e1, e2, ⟨⟨k, ho, hE⟩, hP, hF⟩, hce, hcv, hcl, st⟩
  · obtain ⟨k1, k2, k3⟩ := vx_keep h0 e1 h3 (fun q _ h => h) (fun q h => h) hL hF
    have hP1 : z_Pic base D τ (ph1, 0) M1 s T'.heap := by
      have ha : t.vm.Alike s.vm := by rw [← e2]; exact X'.warmed.alike.symm
      rw [e1]
      exact z_Pic_moved ha (z_Pic_ph hP (Or.inl rfl))
    have hv2 : v = v1.map (z_gv (z_ad base τ χ sp)) := by
      have : v = v1.map (z_gv (fun r => r)) := by injection hv
      rw [this]
      exact z_gv_nr _ _ hnr
    obtain ⟨t2, a1, b1⟩ := hk v1 ho τ χ ls T'.heap (locs ++ L9) (cells + (z_n M1 - z_n M)) (slots + (z_s M1 - z_s M)) h1 hP1 k3 (by omega) (by omega) T' rfl X'
    refine ⟨t2, st t2 ?_, b1⟩
    rw [List.map_append] at a1
    have e9 : v.toList = v1.toList.map (z_gv (z_ad base τ χ sp)) := by
      rw [hv2]
      cases v1 <;> rfl
    rw [e9]
    exact a1
  · obtain ⟨k1, k2, k3⟩ := vx_keep h0 e1 h3 (fun q _ h => h) (fun q h => h) hL hF
    have hP1 : z_Pic base D τ (ph1, 0) M1 s T'.heap := by
      have ha : t.vm.Alike s.vm := by rw [← e2]; exact X'.warmed.alike.symm
      rw [e1]
      exact z_Pic_moved ha (z_Pic_ph hP (Or.inl rfl))
    obtain ⟨t2, a1, b1⟩ := hx k ho τ χ ls T'.heap (locs ++ L9) (cells + (z_n M1 - z_n M)) (slots + (z_s M1 - z_s M)) q ce (r.map (z_gv (z_ad base τ χ sp))) h1 hP1 k3 (by omega) (by omega) (by rw [e1]; exact hce) hcv (by rw [← hE]; exact hcl) T' rfl X'
    exact ⟨t2, st.trans a1, b1⟩
end ZRet
