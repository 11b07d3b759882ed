/-! ===== instructions that read the heap ===== -/
theorem z_kd_lt {P : z_P} {M : z_M} {a : Nat} (h : (z_kd P M a).1 ≠ 98) (ha : a ≠ 300000) : (P.1 = true → a < z_KL.length) ∧ (P.1 = false → a < z_n M) := by
  unfold z_kd at h
  rw [if_neg ha] at h
  constructor
  · intro hp
    rw [if_pos hp] at h
    by_cases hl : a < z_KL.length
    · exact hl
    · rw [if_neg hl] at h
      exact absurd rfl h
  · intro hp
    rw [if_neg (show ¬ P.1 = true by rw [hp]; exact Bool.false_ne_true)] at h
    by_cases hl : a < z_n M
    · exact hl
    · rw [if_neg hl] at h
      exact absurd rfl h
theorem z_ad_q {base τ χ : Nat} {sp : Nat → Nat} {D : va_G} {P : z_P} {M : z_M} {U : State} {H : Heap} (hP : z_Pic base D τ P M U H) {a : Nat} (h : (z_kd P M a).1 ≠ 98) : z_ad base τ χ sp a = z_q base τ a := by
  unfold z_ad z_q
  by_cases e : a = 300000
  · rw [if_neg (by omega), if_pos e, if_pos e]
  · obtain ⟨h1, h2⟩ := z_kd_lt h e
    have hl : a < 300000 := by
      cases hp : P.1 with
      | true => exact Nat.lt_of_lt_of_le (h1 hp) (by rw [z_KL_len]; omega)
      | false => exact Nat.lt_of_lt_of_le (Nat.lt_of_lt_of_le (h2 hp) (hP.2.1 hp).2) (by rw [z_KL_len]; omega)
    rw [if_pos hl, if_neg e]
theorem z_gv_low {base τ χ : Nat} {sp : Nat → Nat} {v : z_Av} (h : ∀ r, v = z_r (some r) → r < 300000) : z_gv (z_ad base τ χ sp) v = z_gv (fun r => base + r) v := by
  rcases v with x | x | _ | r
  · rfl
  · rfl
  · rfl
  · show Value.ref _ = Value.ref _
    rw [z_ad, if_pos (h r rfl)]
theorem z_kd_len {P : z_P} {M : z_M} {a t n : Nat} (h : z_kd P M a = (t, n)) (hp : P.2 ≤ 1000000) : n ≤ 1000000 := by
  have hall : ∀ i, (z_KL.getD i (98, 0)).2 ≤ 1000000 := by
    intro i
    rw [List.getD_eq_getElem?_getD]
    cases hi : z_KL[i]? with
    | none => exact Nat.zero_le _
    | some x =>
      have := List.mem_of_getElem? hi
      have hd : ∀ x ∈ z_KL, x.2 ≤ 1000000 := by decide +kernel
      exact hd x this
  have h2 : (z_kd P M a).2 = n := by rw [h]
  rw [← h2]
  unfold z_kd
  by_cases e1 : a = 300000
  · rw [if_pos e1]
    by_cases e2 : P.1 = true ∧ P.2 ≠ 0
    · rw [if_pos e2]; exact hp
    · rw [if_neg e2]; exact Nat.zero_le _
  · rw [if_neg e1]
    by_cases e2 : a < (if P.1 = true then z_KL.length else z_n M)
    · rw [if_pos e2]; exact hall a
    · rw [if_neg e2]; exact Nat.zero_le _
section ZRead
variable {p : Program} {l : Launch} {e : Env} {R : Room} {s : State} {m : MethodId} {args : Array Value} {below : List Frame} {meth : Method} {c : Code} {Q : State → Prop} {cc : ByteArray} {nL : Nat} {own : String} {base : Nat} {D : va_G} {sp : Nat → Nat} {M0 : z_M}
variable {pc : Nat} {P : z_P} {L : z_L} {S r : List z_Av} {M : z_M}
theorem z_one_P {D : va_G} {q : Nat × va_E} {H : Heap} (h : va_at D vwCl q H) : va_P D vwCl [q] H := by
  intro k x hx
  match k, hx with
  | 0, hx => cases hx; exact h
theorem z_one_K {D : va_G} {U : State} {cA : ClassId} {ty : FieldType} (h : va_K D vwCl [] U) (g : ArrOfT U cA ty ∧ va_RA U cA ty) : va_K D vwCl [(cA, ty)] U := by
  refine ⟨h.1, fun k x hx => ?_⟩
  match k, hx with
  | 0, hx => cases hx; exact g
theorem z_s_getfield (cx : z_Cx p s m args meth c cc nL own) {idx ci k a N : Nat} {C : String} {T : u_T} (hd : decode cc pc = .ok (.getfield idx, 3)) (hc : vwCl[ci]? = some (C, T, N)) (hk : k < N) (hlink : Jvm.Cond.fieldLink own idx (T k).1 (T k).2.1 (T k).2.2.1 ∈ z_W0) (hkd : z_kd P M a = (ci, 0))
    (h : z_Wm p l e R s m args below meth c Q base D sp nL M0 (pc + 3) P L (z_fv ci k M a :: r) M) : z_Wm p l e R s m args below meth c Q base D sp nL M0 pc P L (z_r (some a) :: r) M := fun τ χ ls H locs cells slots h1 h2 h3 h4 h5 => by
  obtain ⟨hN, hw, -⟩ := z_cls ci C T N hc
  have hci : ci < 50 := by
    have := (List.getElem?_eq_some_iff.mp hc).1
    have h12 : vwCl.length = 12 := rfl
    omega
  have hq : z_ad base τ χ sp a = z_q base τ a := z_ad_q h2 (by rw [hkd]; show ci ≠ 98; omega)
  have hcell := h2.2.2.2.1 a
  rw [hkd] at hcell
  have hat := hcell.1 hci
  have hgo := h τ χ ls H locs cells slots h1 h2 h3 h4 h5
  have hv : z_gv (z_ad base τ χ sp) (z_fv ci k M a) = z_gv (fun r => base + r) (z_fv ci k M a) := z_gv_low fun r hr => by
    unfold z_fv at hr
    split at hr
    · exact h2.2.2.2.2 a k r (by simpa using hr)
    · cases hr
  refine va_get (q0 := 0) (fs := (List.range (z_FN ci)).map fun j => z_gv (fun r => base + r) (z_fv ci j M a)) (v := z_gv (z_ad base τ χ sp) (z_fv ci k M a)) cx.1 cx.2.1 cx.2.2.2.2.1 hw cx.2.2.2.1 h2.1 (z_one_P hat) ?_ hc k hk (cx.2.2.2.2.1 _ hlink) (fun _ h9 => h9) ?_ hd hgo
  · show some _ = some _
    rw [hq]
  · rw [hv, List.getElem?_map, List.getElem?_range (by rw [hN]; exact hk)]
    rfl
theorem z_s_iaload (cx : z_Cx p s m args meth c cc nL own) {a n : Nat} {x : Int} (hd : decode cc pc = .ok (.iaload, 1)) (hp : P.2 ≤ 1000000) (hkd : z_kd P M a = (100, n)) (h0 : 0 ≤ x) (hx : x < (n : Int))
    (h : z_Wm p l e R s m args below meth c Q base D sp nL M0 (pc + 1) P L (z_i (z_I M a x.toNat) :: r) M) : z_Wm p l e R s m args below meth c Q base D sp nL M0 pc P L (z_i x :: z_r (some a) :: r) M := fun τ χ ls H locs cells slots h1 h2 h3 h4 h5 => by
  have hq : z_ad base τ χ sp a = z_q base τ a := z_ad_q h2 (by rw [hkd]; show 100 ≠ 98; omega)
  have hcell := h2.2.2.2.1 a
  rw [hkd] at hcell
  obtain ⟨cA, g1, g2⟩ := hcell.2.1 rfl
  obtain ⟨e1, e2⟩ := z_cn h0 hx (z_kd_len hkd hp)
  have hgo := h τ χ ls H locs cells slots h1 h2 h3 h4 h5
  refine va_iald (q0 := 0) (t0 := 0) (cA := cA) (n := n) (f := fun k => Int32.ofInt (z_I M a k)) cx.1 cx.2.1 (z_one_K h2.1 g1) (z_one_P (q := (z_q base τ a, .inl (cA, n, .inl fun k => Int32.ofInt (z_I M a k)))) g2) (by show some _ = some _; rw [hq]) rfl e2 hd ?_
  rw [e1]
  exact hgo
theorem z_s_laload (cx : z_Cx p s m args meth c cc nL own) {a n : Nat} {x : Int} (hd : decode cc pc = .ok (.laload, 1)) (hp : P.2 ≤ 1000000) (hkd : z_kd P M a = (101, n)) (h0 : 0 ≤ x) (hx : x < (n : Int))
    (h : z_Wm p l e R s m args below meth c Q base D sp nL M0 (pc + 1) P L (z_l (z_J M a x.toNat) :: r) M) : z_Wm p l e R s m args below meth c Q base D sp nL M0 pc P L (z_i x :: z_r (some a) :: r) M := fun τ χ ls H locs cells slots h1 h2 h3 h4 h5 => by
  have hq : z_ad base τ χ sp a = z_q base τ a := z_ad_q h2 (by rw [hkd]; show 101 ≠ 98; omega)
  have hcell := h2.2.2.2.1 a
  rw [hkd] at hcell
  obtain ⟨cA, g1, g2⟩ := hcell.2.2.1 rfl
  obtain ⟨e1, e2⟩ := z_cn h0 hx (z_kd_len hkd hp)
  have hgo := h τ χ ls H locs cells slots h1 h2 h3 h4 h5
  refine va_lald (q0 := 0) (t0 := 0) (cA := cA) (n := n) (f := fun k => Int64.ofInt (z_J M a k)) cx.1 cx.2.1 (z_one_K h2.1 g1) (z_one_P (q := (z_q base τ a, .inl (cA, n, .inr (.inl fun k => Int64.ofInt (z_J M a k))))) g2) (by show some _ = some _; rw [hq]) rfl e2 hd ?_
  rw [e1]
  exact hgo
theorem z_va_rf (base : Nat) (o : Option Nat) : va_rf (o.map fun r => base + r) = z_gv (fun r => base + r) (z_r o) := by
  cases o <;> rfl
theorem z_s_aaload (cx : z_Cx p s m args meth c cc nL own) {a t n : Nat} {x : Int} (hd : decode cc pc = .ok (.aaload, 1)) (hp : P.2 ≤ 1000000) (hkd : z_kd P M a = (t, n)) (ht : t = 102 ∨ t = 103) (h0 : 0 ≤ x) (hx : x < (n : Int))
    (h : z_Wm p l e R s m args below meth c Q base D sp nL M0 (pc + 1) P L (z_r (z_R M a x.toNat) :: r) M) : z_Wm p l e R s m args below meth c Q base D sp nL M0 pc P L (z_i x :: z_r (some a) :: r) M := fun τ χ ls H locs cells slots h1 h2 h3 h4 h5 => by
  have hq : z_ad base τ χ sp a = z_q base τ a := z_ad_q h2 (by rw [hkd]; show t ≠ 98; omega)
  have hcell := h2.2.2.2.1 a
  rw [hkd] at hcell
  obtain ⟨e1, e2⟩ := z_cn h0 hx (z_kd_len hkd hp)
  have hgo := h τ χ ls H locs cells slots h1 h2 h3 h4 h5
  have hv : z_gv (z_ad base τ χ sp) (z_r (z_R M a x.toNat)) = va_rf ((z_R M a (Int32.ofInt x).toNatClampNeg).map fun r => base + r) := by
    rw [z_va_rf, e1]
    exact z_gv_low fun r hr => h2.2.2.2.2 a x.toNat r (by simpa using hr)
  have hgo2 : W p l e R s m args below meth c H locs cells slots Q (F0 m (pc + 1) ls (va_rf ((z_R M a (Int32.ofInt x).toNatClampNeg).map fun r => base + r) :: r.map (z_gv (z_ad base τ χ sp)))) := by
    rw [← hv]
    exact hgo
  have hlt : (Int32.ofInt x).toNatClampNeg < n := Nat.not_le.mp fun q => e2 (Or.inr q)
  rcases ht with rfl | rfl
  · obtain ⟨cA, g1, g2⟩ := hcell.2.2.2.1 rfl
    exact W.aald (v := va_rf ((z_R M a (Int32.ofInt x).toNatClampNeg).map fun r => base + r)) (ty := .array .int) cx.1 cx.2.1 (a := z_ad base τ χ sp a) (by rw [hq]; exact g2) (g1 n (fun j => va_rf ((z_R M a j).map fun r => base + r))) rfl (fun q => by cases q) (by show ¬ (_ ∨ (arrV _ _ _).slots.size ≤ _); rw [arrV_size]; exact e2) (by show (arrV _ _ _).slots[_]? = _; rw [arrV_read _ _ hlt]) rfl rfl hd hgo2
  · obtain ⟨cA, g1, g2⟩ := hcell.2.2.2.2 rfl
    exact W.aald (v := va_rf ((z_R M a (Int32.ofInt x).toNatClampNeg).map fun r => base + r)) (ty := .object "LacedHoles$Scene") cx.1 cx.2.1 (a := z_ad base τ χ sp a) (by rw [hq]; exact g2) (g1.1 n (fun j => va_rf ((z_R M a j).map fun r => base + r))) rfl (fun q => by cases q) (by show ¬ (_ ∨ (arrV _ _ _).slots.size ≤ _); rw [arrV_size]; exact e2) (by show (arrV _ _ _).slots[_]? = _; rw [arrV_read _ _ hlt]) rfl rfl hd hgo2
theorem z_s_arraylength (cx : z_Cx p s m args meth c cc nL own) {a t n : Nat} (hd : decode cc pc = .ok (.arraylength, 1)) (hkd : z_kd P M a = (t, n)) (ht : 100 ≤ t ∧ t ≤ 103)
    (h : z_Wm p l e R s m args below meth c Q base D sp nL M0 (pc + 1) P L (z_i (n : Int) :: r) M) : z_Wm p l e R s m args below meth c Q base D sp nL M0 pc P L (z_r (some a) :: r) M := fun τ χ ls H locs cells slots h1 h2 h3 h4 h5 => by
  have hq : z_ad base τ χ sp a = z_q base τ a := z_ad_q h2 (by rw [hkd]; show t ≠ 98; omega)
  have hcell := h2.2.2.2.1 a
  rw [hkd] at hcell
  have hgo := h τ χ ls H locs cells slots h1 h2 h3 h4 h5
  have hn : Int32.ofNat n = Int32.ofInt (n : Int) := rfl
  rcases (show t = 100 ∨ t = 101 ∨ t = 102 ∨ t = 103 by omega) with rfl | rfl | rfl | rfl
  · obtain ⟨cA, g1, g2⟩ := hcell.2.1 rfl
    exact W.alen (n := Int32.ofInt (n : Int)) cx.1 cx.2.1 (a := z_ad base τ χ sp a) (by rw [hq]; exact g2) (g1.1 n (fun j => .int (Int32.ofInt (z_I M a j)))) (by show (arrV _ _ _).slots.size.toInt32 = _; rw [arrV_size]; rfl) rfl rfl hd hgo
  · obtain ⟨cA, g1, g2⟩ := hcell.2.2.1 rfl
    exact W.alen (n := Int32.ofInt (n : Int)) cx.1 cx.2.1 (a := z_ad base τ χ sp a) (by rw [hq]; exact g2) (g1.1 n (fun j => .long (Int64.ofInt (z_J M a j)))) (by show (arrV _ _ _).slots.size.toInt32 = _; rw [arrV_size]; rfl) rfl rfl hd hgo
  · obtain ⟨cA, g1, g2⟩ := hcell.2.2.2.1 rfl
    exact W.alen (n := Int32.ofInt (n : Int)) cx.1 cx.2.1 (a := z_ad base τ χ sp a) (by rw [hq]; exact g2) (g1 n (fun j => va_rf ((z_R M a j).map fun r => base + r))) (by show (arrV _ _ _).slots.size.toInt32 = _; rw [arrV_size]; rfl) rfl rfl hd hgo
  · obtain ⟨cA, g1, g2⟩ := hcell.2.2.2.2 rfl
    exact W.alen (n := Int32.ofInt (n : Int)) cx.1 cx.2.1 (a := z_ad base τ χ sp a) (by rw [hq]; exact g2) (g1.1 n (fun j => va_rf ((z_R M a j).map fun r => base + r))) (by show (arrV _ _ _).slots.size.toInt32 = _; rw [arrV_size]; rfl) rfl rfl hd hgo
theorem z_s_objInit (cx : z_Cx p s m args meth c cc nL own) {idx a : Nat} (hd : decode cc pc = .ok (.invokespecial idx, 3)) (hl : Jvm.Cond.methodLink own idx Lib.objectInit ∈ z_W0) (hi : Jvm.Cond.instanceMethod Lib.objectInit ∈ z_W0) (hcd : Jvm.Cond.code Lib.objectInit ⟨#[0xb1]⟩ 1 none ∈ z_W0) (hr : (r.map z_cat).sum ≤ 8) (hRf : 1 ≤ R.frames) (hRl : 20 ≤ R.locals)
    (h : z_Wm p l e R s m args below meth c Q base D sp nL M0 (pc + 3) P L r M) : z_Wm p l e R s m args below meth c Q base D sp nL M0 pc P L (z_r (some a) :: r) M := fun τ χ ls H locs cells slots h1 h2 h3 h4 h5 => by
  refine W.objInit cx.1 cx.2.1 cx.2.2.2.1 (cx.2.2.2.2.1 _ hl) (cx.2.2.2.2.1 _ hi) (cx.2.2.2.2.1 _ hcd) rfl (by show ls.size = _; rw [cx.2.2.1]; exact h1.2.1) rfl hd hRf ?_ (h τ χ ls H locs cells slots h1 h2 h3 h4 h5)
  show 2 * 0 + ((r.map (z_gv (z_ad base τ χ sp))).map fun v => v.category).sum + 12 ≤ R.locals
  rw [z_gv_cats]
  omega
theorem z_s_sload (cx : z_Cx p s m args meth c cc nL own) {x : Int} (hd : decode cc pc = .ok (.iaload, 1)) (hX : va_X (sp 600000) (sp 600001) (fun k => Int32.ofNat (sp (600002 + k))) s s.heap) (hbl : sp 600000 < s.heap.size) (hbA : ¬ base ≤ sp 600000) (h0 : 0 ≤ x) (hx : x < (sp 600001 : Int)) (hn : sp 600001 ≤ 1000000)
    (h : z_Wm p l e R s m args below meth c Q base D sp nL M0 (pc + 1) P L (z_i (z_sv sp x.toNat) :: r) M) : z_Wm p l e R s m args below meth c Q base D sp nL M0 pc P L (z_i x :: z_r (some 600000) :: r) M := fun τ χ ls H locs cells slots h1 h2 h3 h4 h5 => by
  obtain ⟨e1, e2⟩ := z_cn h0 hx hn
  have hgo := h τ χ ls H locs cells slots h1 h2 h3 h4 h5
  have hq : z_ad base τ χ sp 600000 = sp 600000 := by
    unfold z_ad
    rw [if_neg (by omega), if_neg (by omega), if_neg (by omega)]
  show W p l e R s m args below meth c H locs cells slots Q (F0 m pc ls (.int (Int32.ofInt x) :: .ref (z_ad base τ χ sp 600000) :: r.map (z_gv (z_ad base τ χ sp))))
  rw [hq]
  refine va_sld cx.1 cx.2.1 hX hbl hbA h3 e2 hd ?_
  rw [e1]
  have hgo2 : W p l e R s m args below meth c H locs cells slots Q (F0 m (pc + 1) ls (.int (Int32.ofInt (z_sv sp x.toNat)) :: r.map (z_gv (z_ad base τ χ sp)))) := hgo
  rw [z_sv, Int32.ofInt_toInt] at hgo2
  exact hgo2
theorem z_s_slen (cx : z_Cx p s m args meth c cc nL own) (hd : decode cc pc = .ok (.arraylength, 1)) (hX : va_X (sp 600000) (sp 600001) (fun k => Int32.ofNat (sp (600002 + k))) s s.heap) (hbl : sp 600000 < s.heap.size) (hbA : ¬ base ≤ sp 600000)
    (h : z_Wm p l e R s m args below meth c Q base D sp nL M0 (pc + 1) P L (z_i (sp 600001 : Int) :: r) M) : z_Wm p l e R s m args below meth c Q base D sp nL M0 pc P L (z_r (some 600000) :: r) M := fun τ χ ls H locs cells slots h1 h2 h3 h4 h5 => by
  have hgo := h τ χ ls H locs cells slots h1 h2 h3 h4 h5
  have hq : z_ad base τ χ sp 600000 = sp 600000 := by
    unfold z_ad
    rw [if_neg (by omega), if_neg (by omega), if_neg (by omega)]
  show W p l e R s m args below meth c H locs cells slots Q (F0 m pc ls (.ref (z_ad base τ χ sp 600000) :: r.map (z_gv (z_ad base τ χ sp))))
  rw [hq]
  exact va_slen cx.1 cx.2.1 hX hbl hbA h3 hd hgo
end ZRead
