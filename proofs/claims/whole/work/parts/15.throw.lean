/-! ===== constructors' calls; throws; rows of rows ===== -/
section ZCall2
variable {p : Program} {l : Launch} {e : Env} {R : Room} {s : State} {m : MethodId} {args : Array Value} {below : List Frame} {meth : Method} {c : Code} {Q : State → Prop} {cc : ByteArray} {nL : Nat} {own : String} {base : Nat} {D : va_G} {sp : Nat → Nat} {M0 : z_M}
variable {pc : Nat} {P : z_P} {L : z_L} {As S r : List z_Av} {M M1 : z_M} {ph ph1 : Bool} {o1 : z_Ot} {mi : z_Mi} {d idx : Nat}
theorem z_s_callI (cx : z_Cx p s m args meth c cc nL own) (hex : z_Ex base sp s s.heap) (hd : decode cc pc = .ok (.invokespecial idx, 3)) {a : Nat} {v : List z_Av} (hA : As.reverse = z_r (some a) :: v) (hcm : z_Cm mi v.length) (htb : mi.2.2.2.2.2 = []) (hrt : mi.2.2.2.1 = none) (hnm : mi.1.name = "<init>")
    (hl : Jvm.Cond.methodLink own idx mi.1 ∈ z_W0 ∨ ∃ host, Jvm.Cond.methodLinkNest own idx mi.1 host ∈ lw_tbl) (hi : Jvm.Cond.instanceMethod mi.1 ∈ z_W0) {v1 : Option z_Av} (ho : o1 = .inl v1)
    (hct : z_Ct l base D sp mi d ph As.reverse M ph1 o1 M1) (hph : ph = P.1 ∨ (ph = true ∧ z_KL.length ≤ z_n M)) (hcat : (r.map z_cat).sum ≤ 8) (hRf : d + 9 ≤ R.frames) (hRl : 40 * d + 160 ≤ R.locals) (hmono : z_n M ≤ z_n M1 ∧ z_s M ≤ z_s M1) (hRc : z_n M1 ≤ R.cells + z_n M0) (hRs : z_s M1 ≤ R.slots + z_s M0)
    (hk : ∀ v, o1 = .inl v → z_Wm p l e R s m args below meth c Q base D sp nL M0 (pc + 3) (ph1, 0) L (v.toList ++ r) M1) :
    z_Wm p l e R s m args below meth c Q base D sp nL M0 pc P L (As ++ r) M := fun τ χ ls H locs cells slots h1 h2 h3 h4 h5 => by
  obtain ⟨g1, g2, g3, g4⟩ := hcm
  have hw : z_cw mi = Jvm.Cond.code mi.1 mi.2.1 mi.2.2.1 none := by rw [z_cw, if_pos htb, hrt]
  have hct2 := hct τ χ
  have hpre := z_pre (χ := χ) (A9 := As.reverse) hex h2 h3 hph
  rw [hA] at hct2 hpre
  have hct3 := z_Met_of ho hct2
  have hst : (As ++ r).map (z_gv (z_ad base τ χ sp)) = (v.map (z_gv (z_ad base τ χ sp))).reverse ++ .ref (z_ad base τ χ sp a) :: r.map (z_gv (z_ad base τ χ sp)) := by
    have hA2 : As = (z_r (some a) :: v).reverse := by rw [← hA, List.reverse_reverse]
    rw [hA2, List.map_append, List.map_reverse]
    show ((z_r (some a) :: v).map _).reverse ++ _ = _
    rw [List.map_cons, List.reverse_cons, List.append_assoc]
    rfl
  have hG : GoodIn z_W0 (z_cw mi :: z_W0) := z_good fun w hw2 => by
    rcases List.mem_cons.mp hw2 with rfl | h
    · exact g1
    · exact h
  refine z_behind (a := ((z_r (some a) :: v).map (z_gv (z_ad base τ χ sp))).toArray) ?_ h1 h3 h4 h5 hmono hk (fun k hk2 => by rw [ho] at hk2; cases hk2)
  rcases hl with hl | ⟨host, hl⟩
  · exact fun T hT X => Or.inl (va_runI (n := v.length) (b := z_ad base τ χ sp a) (As := v.map (z_gv (z_ad base τ χ sp))) ⟨cx.1, cx.2.1, cx.2.2.1, cx.2.2.2.1, cx.2.2.2.2.1⟩ hct3 (cwI v.length cx.2.2.2.2.1 hG (by rw [hw]) rfl rfl (cx.2.2.2.2.1 _ g2) (cx.2.2.2.2.1 _ hl) (cx.2.2.2.2.1 _ hi) hnm g3 ⟨hRf, by show 8 + (mi.2.2.1 + 11) + (40 * d + 120) ≤ _; omega⟩) ⟨z_fb, hpre⟩ rfl (by simp) h1.2.1 hst (lv_room (by rw [z_gv_cats]; exact hcat)) hd ⟨by omega, by omega⟩ T hT X)
  · exact fun T hT X => Or.inl (va_runIN (n := v.length) (host := host) (b := z_ad base τ χ sp a) (As := v.map (z_gv (z_ad base τ χ sp))) ⟨cx.1, cx.2.1, cx.2.2.1, cx.2.2.2.1, cx.2.2.2.2.1⟩ hct3 ⟨va_cnB v.length cx.2.2.2.2.1 hG (by rw [hw]) rfl rfl (hex.2.2.2.2.2.2.2.2.2.1 _ hl rfl) (cx.2.2.2.2.1 _ g2) g3 ⟨hRf, by show 8 + (mi.2.2.1 + 11) + (40 * d + 120) ≤ _; omega⟩, hnm, cx.2.2.2.2.1 _ hi⟩ ⟨z_fb, hpre⟩ rfl (by simp) h1.2.1 hst (lv_room (by rw [z_gv_cats]; exact hcat)) hd ⟨by omega, by omega⟩ T hT X)
def z_nms : List String := ["java/lang/RuntimeException", "java/lang/Exception"]
def z_b13 : ByteArray := ⟨#[0x2a, 0x2b, 0xb7, 0x00, 0x0d, 0xb1]⟩
/-- the words of a throw of the exception k -/
def z_Tl (k ic : Nat) : List Jvm.Cond := if k = 2 then (z_ownA "LacedHoles" ic (z_En 2) "java/lang/RuntimeException" 13 z_b13 ["java/lang/Exception"]).filter vx_no else vx_atS "LacedHoles" ic (z_En k) z_nms
/-- what the tables say of a throw of the exception k, with the constructor's place ic -/
def z_Th (k ic : Nat) : Prop := (∀ w ∈ z_Tl k ic, w ∈ lw_tbl ∧ (goodWord w = true ∨ z_wk w = true) ∧ vx_ot w = true) ∧ Jvm.Cond.initialized (z_En k) ∈ z_W0 ∧ Bundle.fit (z_En k) = true
theorem z_s_throw (cx : z_Cx p s m args meth c cc nL own) (hex : z_Ex base sp s s.heap) (hl : l.stackTraces = false) (ho : own = "LacedHoles") {k ik is ic : Nat} {tx : String} {wide : Bool} (hwd : k = 2 → wide = true) (hth : z_Th k ic) (hki : Jvm.Cond.classLink "LacedHoles" ik (z_En k) ∈ z_W0) (hms : (is, tx) ∈ z_Msg)
    (d0 : decode cc pc = .ok (.new ik, 3)) (d3 : decode cc (pc + 3) = .ok (.dup, 1)) (d4 : if wide = true then decode cc (pc + 4) = .ok (.ldc_w is, 3) else decode cc (pc + 4) = .ok (.ldc is, 2)) (d6 : decode cc (pc + (if wide = true then 7 else 6)) = .ok (.invokespecial ic, 3)) (d9 : decode cc (pc + (if wide = true then 10 else 9)) = .ok (.athrow, 1))
    (htb : ∀ x ∈ c.exceptionTable.toList, False) (hcat : (S.map z_cat).sum ≤ 8) (hRf : 6 ≤ R.frames) (hRl : 100 ≤ R.locals) (hRc : z_n M + 1 ≤ R.cells + z_n M0) (hRs : z_s M + 6 ≤ R.slots + z_s M0) (hp : P.1 = true) {MF : z_M} {oF : z_Ot} (hX : true = ph1 ∧ .inr k = oF ∧ (z_n M + 1, z_s M + 6, z_R M, z_I M, z_J M) = MF) :
    z_Wm p l e R s m args below meth c (vx_MQ below (z_Qc base D ph1 oF MF) (z_XC base D ph1 oF MF) args s (z_n MF - z_n M0) (z_s MF - z_s M0) (fun q => base ≤ q)) base D sp nL M0 pc P L S M := fun τ χ ls H locs cells slots h1 h2 h3 h4 h5 => by
  obtain ⟨rfl, rfl, rfl⟩ := hX
  obtain ⟨t1, t2, t3⟩ := hth
  obtain ⟨x1, x2, x3, x4, -, -, -, -, -, x10, -⟩ := hex
  obtain ⟨sa, hsa⟩ := x4 _ hms
  subst ho
  have hat : ∀ w ∈ z_Tl k ic, w.before args s = true := fun w hw => by
    obtain ⟨w1, w2 | w2, -⟩ := t1 w hw
    · exact cx.2.2.2.2.1 w (List.mem_filter.mpr ⟨w1, w2⟩)
    · exact z_wk_use w2 (x10 w w1 w2)
  have hgood : ∀ w ∈ Jvm.Cond.classLink "LacedHoles" ik (z_En k) :: Jvm.Cond.initialized (z_En k) :: z_Tl k ic, vx_ot w = true := fun w hw => by
    rcases List.mem_cons.mp hw with rfl | hw
    · rfl
    · rcases List.mem_cons.mp hw with rfl | hw
      · rfl
      · exact (t1 w hw).2.2
  have hnames : ∀ n ∈ z_nms, Bundle.fit n = true := by decide +kernel
  have hx : ∀ t : State, s.vm.Alike t.vm → H.size ≤ t.heap.size → (∀ q : Nat, q < H.size → t.heap[q]? = H[q]?) → z_XC base D true (.inr k) (z_n M + 1, z_s M + 6, z_R M, z_I M, z_J M) (z_En k) s t := by
    intro t ha hz hk
    refine ⟨⟨k, rfl, rfl⟩, z_Pic_moved ha ?_, Nat.le_trans h3.1 hz, fun q q1 q2 => (hk q (Nat.lt_of_lt_of_le q1 h3.1)).trans (h3.2.1 q q1 q2)⟩
    obtain ⟨y1, y2, y3, y4, y5⟩ := z_Pic_ph (τ' := 0) h2 (Or.inl hp.symm)
    have y3' := (y3 rfl).1
    refine ⟨y1, fun z => (by cases z), fun _ => ⟨by omega, fun z => absurd rfl z⟩, fun a => ?_, y5⟩
    have hkd : z_kd (true, 0) (z_n M + 1, z_s M + 6, z_R M, z_I M, z_J M) a = z_kd (true, 0) M a := rfl
    rw [hkd]
    by_cases h98 : (z_kd (true, 0) M a).1 = 98
    · exact z_cell98 h98
    · have ea : a ≠ 300000 := fun z => h98 (by unfold z_kd; rw [if_pos z, if_neg (fun y => y.2 rfl)])
      refine z_cell_keep (y4 a) ⟨fun _ => rfl, fun _ => rfl, fun _ => rfl⟩ (hk _ ?_)
      have := (z_kd_lt h98 ea).1 rfl
      unfold z_q
      rw [if_neg ea]
      omega
  have hRl2 : ((S.map (z_gv (z_ad base τ χ sp))).map fun v => v.category).sum + (13 * (z_nms.length + 1) + 43) ≤ R.locals := by
    rw [z_gv_cats]
    show _ + (13 * (2 + 1) + 43) ≤ _
    omega
  have e1 : z_n ((z_n M + 1, z_s M + 6, z_R M, z_I M, z_J M) : z_M) = z_n M + 1 := rfl
  have e2 : z_s ((z_n M + 1, z_s M + 6, z_R M, z_I M, z_J M) : z_M) = z_s M + 6 := rfl
  by_cases hk2 : k = 2
  · subst hk2
    have hwt := hwd rfl
    subst hwt
    have hTl : z_Tl 2 ic = (z_ownA "LacedHoles" ic (z_En 2) "java/lang/RuntimeException" 13 z_b13 ["java/lang/Exception"]).filter vx_no := if_pos rfl
    rw [hTl] at hat hgood
    exact z_throwW cx.1 cx.2.1 hl (by decide +kernel) (by decide +kernel) (by decide +kernel) (by decide +kernel) (by decide +kernel) cx.2.2.2.1 t3 (by decide +kernel) (cx.2.2.2.2.1 _ hki) (cx.2.2.2.2.1 _ t2) hsa hat hgood x2 x3 h3 (by rw [cx.2.2.1]; exact h1.2.1) d0 d3 d4 d6 d9 (fun x hx => (htb x hx).elim) (by show 1 + 4 < _; omega) hRl2 (by omega) (by omega) cx.2.2.2.2.2 hx h3.2.2 (by omega) (by omega)
  have hTl : z_Tl k ic = vx_atS "LacedHoles" ic (z_En k) z_nms := if_neg hk2
  rw [hTl] at hat hgood
  cases wide with
  | false =>
    exact vx_throwS cx.1 cx.2.1 hl cx.2.2.2.1 t3 hnames (cx.2.2.2.2.1 _ hki) (cx.2.2.2.2.1 _ t2) hsa hat hgood x2 x3 h3 (by rw [cx.2.2.1]; exact h1.2.1) d0 d3 d4 d6 d9 (fun x hx => (htb x hx).elim) (by show 2 + 3 < _; omega) hRl2 (by omega) (by omega) cx.2.2.2.2.2 hx h3.2.2 (by omega) (by omega)
  | true =>
    exact vx_throwSW cx.1 cx.2.1 hl cx.2.2.2.1 t3 hnames (cx.2.2.2.2.1 _ hki) (cx.2.2.2.2.1 _ t2) hsa hat hgood x2 x3 h3 (by rw [cx.2.2.1]; exact h1.2.1) d0 d3 d4 d6 d9 (fun x hx => (htb x hx).elim) (by show 2 + 3 < _; omega) hRl2 (by omega) (by omega) cx.2.2.2.2.2 hx h3.2.2 (by omega) (by omega)
theorem z_s_multi (cx : z_Cx p s m args meth c cc nL own) {x y : Nat} (hd : decode cc pc = .ok (.multianewarray idx 2, 4)) (hw : Jvm.Cond.classLink own idx ("[" ++ (FieldType.array .int).toString) ∈ z_W0) (hw2 : (Jvm.Cond.arrayOver (.array .int)).before args s = true) (hw3 : Jvm.Cond.arrayClass .int ∈ z_W0) (hp : P.1 = false) (hx : x ≤ 1000) (hy : y ≤ 1000) (hn : z_n M + x < z_KL.length) (hk : z_KL.getD (z_n M) (98, 0) = (102, x)) (hkj : ∀ j, j < x → z_KL.getD (z_n M + 1 + j) (98, 0) = (100, y)) (hc : z_n M + 1 + x ≤ R.cells + z_n M0) (hs : z_s M + x + x * y ≤ R.slots + z_s M0)
    (h : z_Wm p l e R s m args below meth c Q base D sp nL M0 (pc + 4) P L (z_r (some (z_n M)) :: r) (z_n M + 1 + x, z_s M + x + x * y, z_row (z_R M) (z_n M) (fun j => if j < x then some (z_n M + 1 + j) else none), (fun a j => if z_n M < a ∧ a ≤ z_n M + x then 0 else z_I M a j), z_J M)) : z_Wm p l e R s m args below meth c Q base D sp nL M0 pc P L (z_i (y : Int) :: z_i (x : Int) :: r) M := fun τ χ ls H locs cells slots h1 h2 h3 h4 h5 => by
  have hix : (Int32.ofInt (x : Int)).toInt = (x : Int) := z_w_id (by omega) (by omega)
  have hiy : (Int32.ofInt (y : Int)).toInt = (y : Int) := z_w_id (by omega) (by omega)
  have hnx : (Int32.ofInt (x : Int)).toNatClampNeg = x := by rw [← Int32.toNat_toInt, hix]; rfl
  have hny : (Int32.ofInt (y : Int)).toNatClampNeg = y := by rw [← Int32.toNat_toInt, hiy]; rfl
  have hx0 : ¬ Int32.ofInt (x : Int) < 0 := fun z => by
    have := Int32.lt_iff_toInt_lt.mp z
    rw [hix] at this
    simp at this
    omega
  have hy0 : ¬ Int32.ofInt (y : Int) < 0 := fun z => by
    have := Int32.lt_iff_toInt_lt.mp z
    rw [hiy] at this
    simp at this
    omega
  obtain ⟨e1, e2⟩ := h2.2.1 hp
  intro T hT Xs
  obtain ⟨vm₁, cA, comp, -, fA, fC, hO, hI, X', step⟩ := Xs.multianewarray2F cx.1 cx.2.2.2.1 (cx.2.2.2.2.1 _ hw) hw2 (cx.2.2.2.2.1 _ hw3) (g := F0 m pc ls (.int (Int32.ofInt (y : Int)) :: .int (Int32.ofInt (x : Int)) :: r.map (z_gv (z_ad base τ χ sp)))) rfl (by rw [cx.2.1]; exact hd) rfl hx0 hy0 (by rw [hnx]; omega) (by rw [hny]; show y * 4 ≤ _; omega) (by rw [hny]; omega) rfl rfl (by rw [hnx]; omega) (by rw [hnx, hny]; omega)
  rw [hnx, hny] at X' step
  generalize hF : Jvm.Free.Multi.fill (T.setVm vm₁) cA comp x y (defaultValue .int) x = F at X' step
  have hTh : (T.setVm vm₁).heap = H := hT
  obtain ⟨f1, f2, -, -⟩ := Jvm.Free.Multi.fill_facts (T.setVm vm₁) cA comp x y (defaultValue .int) x
  rw [hF, hTh] at f1 f2
  have hold : ∀ q : Nat, q < H.size → F.heap[q]? = H[q]? := fun q hq => by
    have := Jvm.Free.Multi.fill_old (T.setVm vm₁) cA comp x y (defaultValue .int) (a := q) (by rw [hTh]; exact hq) x
    rw [hF, hTh] at this
    exact this
  have hrow : ∀ j : Nat, j < x → F.heap[H.size + 1 + j]? = some (Jvm.Free.Multi.innerC comp y (defaultValue .int)) := fun j hj => by
    have := Jvm.Free.Multi.fill_inner (T.setVm vm₁) cA comp x y (defaultValue .int) x j hj
    rw [hF, hTh] at this
    exact this
  have hAO : ArrOfT s cA (.array .int) := fun N z => ⟨(fun k h => by cases h), (hO 0 0 0).1.2⟩
  have hAI : ArrOfT s comp .int := fun N z => ⟨(fun k h => by cases h), (hI 0 (defaultValue .int)).1.2⟩
  have hRI : va_RA s comp .int := fC
  have hPic : z_Pic base D τ P (z_n M + 1 + x, z_s M + x + x * y, z_row (z_R M) (z_n M) (fun j => if j < x then some (z_n M + 1 + j) else none), (fun a j => if z_n M < a ∧ a ≤ z_n M + x then 0 else z_I M a j), z_J M) s F.heap := by
    refine z_Pic_new (k := 1 + x) h2 hp (by show z_n M + 1 + x = _; omega) (by omega) (by rw [f1]; omega) hold (fun a ha => ⟨fun k => if_neg (by omega), fun _ => rfl, fun k => z_row_ne (z_R M) (fun j => if j < x then some (z_n M + 1 + j) else none) k (Nat.ne_of_lt ha)⟩) ?_ ?_
    · intro a' k' r' hr'
      have hr2 : z_row (z_R M) (z_n M) (fun j => if j < x then some (z_n M + 1 + j) else none) a' k' = some r' := hr'
      by_cases e9 : a' = z_n M
      · subst e9
        rw [z_row_eq] at hr2
        split at hr2
        · cases hr2
          have := z_KL_len
          omega
        · cases hr2
      · rw [z_row_ne _ _ _ e9] at hr2
        exact h2.2.2.2.2 _ _ _ hr2
    · intro j hj
      cases j with
      | zero =>
        show z_cell base D s _ F.heap (z_KL.getD (z_n M) (98, 0)) (z_n M) (base + z_n M)
        rw [hk]
        refine ⟨fun z => (by cases Nat.not_lt.mpr (by decide : 50 ≤ 102) z), fun z => (by cases z), fun z => (by cases z), fun _ => ⟨cA, hAO, ?_⟩, fun z => (by cases z)⟩
        rw [← e1, f2, vr_outer, vp_cell_q]
        refine congrArg some (congrArg (arrV cA x) (funext fun q => ?_))
        show va_rf _ = va_rf (Option.map (fun r => base + r) (z_row (z_R M) (z_n M) (fun j => if j < x then some (z_n M + 1 + j) else none) (z_n M) q))
        rw [z_row_eq]
        by_cases hq : q < x
        · rw [if_pos hq, if_pos hq]
          show va_rf (some _) = va_rf (some _)
          rw [e1]
          exact congrArg (fun z => va_rf (some z)) (by show base + z_n M + 1 + q = base + (z_n M + 1 + q); omega)
        · rw [if_neg hq, if_neg hq]
          rfl
      | succ j =>
        have e3 : z_n M + (j + 1) = z_n M + 1 + j := by omega
        rw [e3, hkj j (by omega)]
        refine ⟨fun z => (by cases Nat.not_lt.mpr (by decide : 50 ≤ 100) z), fun _ => ⟨comp, ⟨hAI, hRI⟩, ?_⟩, fun z => (by cases z), fun z => (by cases z), fun z => (by cases z)⟩
        rw [show base + (z_n M + 1 + j) = H.size + 1 + j by omega, hrow j (by omega), vp_cell_i]
        show some ({ cls := comp, slots := Array.replicate y (defaultValue .int), vm := .none } : Cell) = _
        rw [arrV_new]
        refine congrArg some (congrArg (arrV comp y) (funext fun q => ?_))
        show defaultValue .int = Value.int (Int32.ofInt (if z_n M < z_n M + 1 + j ∧ z_n M + 1 + j ≤ z_n M + x then 0 else z_I M (z_n M + 1 + j) q))
        rw [if_pos ⟨by omega, by omega⟩]
        rfl
  obtain ⟨t, a1, b1⟩ := h τ χ ls F.heap locs (cells + 1 + x) (slots + x + x * y) h1 hPic (z_S_new h3 (by omega) hold) (by show _ = z_n M + 1 + x; omega) (by show _ = z_s M + x + x * y; omega) F rfl X'
  refine ⟨t, step t ?_, b1⟩
  have hq : z_ad base τ χ sp (z_n M) = T.heap.size := by
    rw [z_ad, if_pos (by have := z_KL_len; omega), hT, e1]
  have a2 : Steps p.tables e below (F.setTop (F0 m (pc + 4) ls (.ref (z_ad base τ χ sp (z_n M)) :: r.map (z_gv (z_ad base τ χ sp))))) t := a1
  rw [hq] at a2
  exact a2
end ZCall2
