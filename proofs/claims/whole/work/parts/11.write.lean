/-! ===== instructions that write the heap ===== -/
section ZWrite
variable {p : Program} {l : Launch} {e : Env} {R : Room} {s : State} {m : MethodId} {args : Array Value} {below : List Frame} {meth : Method} {c : Code} {Q : State → Prop} {cc : ByteArray} {nL : Nat} {own : String} {base : Nat} {D : va_G} {sp : Nat → Nat} {M0 : z_M}
variable {pc : Nat} {P : z_P} {L : z_L} {S r : List z_Av} {M : z_M}
theorem z_put {τ : Nat} {H : Heap} {locs : List Loc} {cells slots : Nat} {ls : Array Slot} {rest : List Value} (cx : z_Cx p s m args meth c cc nL own) {idx ci k a N : Nat} {C : String} {T : u_T} {v : Value} {ty : FieldType} (hd : decode cc pc = .ok (.putfield idx, 3)) (hc : vwCl[ci]? = some (C, T, N)) (hk : k < N)
    (hlink : Jvm.Cond.fieldLink own idx (T k).1 (T k).2.1 (T k).2.2.1 ∈ z_W0) (hkd : z_kd P M a = (ci, 0)) (ini : (T k).2.2.2 = true → meth.name = "<init>" ∧ (T k).1 = own) (hty : parseFieldDescriptor (T k).2.2.1 = some ty) (hn : narrow ty v = v) (hfit : fits ty v = true)
    (h2 : z_Pic base D τ P M s H) (h3 : va_S (fun q => base ≤ q) s.heap H locs) (hA : base ≤ z_q base τ a)
    (kk : ∀ (H1 : Heap) (locs1 : List Loc), H1.size = H.size → (∀ q, q ≠ z_q base τ a → H1[q]? = H[q]?) → (∀ fs' : List Value, (∀ j, j < N → vp_V fs' j = if j = k then v else z_gv (fun r => base + r) (z_fv ci j M a)) → va_at D vwCl (z_q base τ a, .inr (ci, fs')) H1) → va_S (fun q => base ≤ q) s.heap H1 locs1 →
      W p l e R s m args below meth c H1 locs1 cells slots Q (F0 m (pc + 3) ls rest)) : W p l e R s m args below meth c H locs cells slots Q (F0 m pc ls (v :: .ref (z_q base τ a) :: rest)) := by
  obtain ⟨hN, hw, hnm, ty0, hty0, -⟩ := z_cls ci C T N hc
  have hci : ci < 50 := by
    have := (List.getElem?_eq_some_iff.mp hc).1
    have h12 : vwCl.length = 12 := rfl
    omega
  have hcell := h2.2.2.2.1 a
  rw [hkd] at hcell
  have hat := hcell.1 hci
  have hts := cx.2.2.2.2.1
  have hown := cx.2.2.2.1
  have hap := va_apart (own := own) hts hw ty0 hty0 hnm h2.1 hc
  obtain ⟨r9, g1, cell, q1, q2, q3, q4⟩ := hat
  have hr : r9 = (C, T, N) := Option.some.inj (g1.symm.trans hc)
  subst hr
  obtain ⟨hS, hfc, kC, hkC, hkind⟩ := h2.1.1 ci _ hc
  obtain ⟨cf, kf, fi, f, hi, hsl⟩ := hS k hk
  have hlay := hts _ (hw _ (u_in_lay hk))
  unfold u_lay at hlay
  have hst := (u_facts hfc hkC (u_lays hts hw hk) hi).1
  have key : ∀ H1 : Heap, H1[z_q base τ a]? = some (cell.setSlot (D.2 ci k) v) → ∀ fs' : List Value, (∀ j, j < N → vp_V fs' j = if j = k then v else z_gv (fun r => base + r) (z_fv ci j M a)) → va_at D vwCl (z_q base τ a, .inr (ci, fs')) H1 := by
    intro H1 e1 fs' hfs
    refine ⟨_, hc, t_OB.to (V := updV (vp_V ((List.range (z_FN ci)).map fun j => z_gv (fun r => base + r) (z_fv ci j M a))) k v) ⟨_, e1, q2, q3, t_set q4 hap hk v⟩ (fun j hj => ?_)⟩
    rw [hfs j hj]
    show updV _ k v j = _
    unfold updV
    by_cases ej : j = k
    · rw [if_pos ej, if_pos ej]
    · rw [if_neg ej, if_neg ej]
      show List.getD _ j Value.null = _
      rw [List.getD_eq_getElem?_getD, List.getElem?_map, List.getElem?_range (by rw [hN]; exact hj)]
      rfl
  by_cases hfin : (T k).2.2.2 = true
  · obtain ⟨hin2, hdecl⟩ := ini hfin
    rw [if_pos hfin] at hlay
    have hcf : m.cls = cf := by
      obtain ⟨_, _, c', _, _, _, -, -, hf', -, -, -, hown2, -⟩ := Cond.laysFinal_spec hlay
      have e1 : c' = cf := by have := hi.symm.trans hf'; simp at this; exact this.1.symm
      rw [hdecl] at hown2
      rw [← e1]; exact Option.some.inj (hown.symm.trans hown2)
    have h6 := u_fits hfc hkC hkind (Or.inr hlay) hi hty hn hfit
    refine W.putFinK cx.1 cx.2.1 hown (hts _ hlink) hi hst hcf hin2 (by rw [q2]; exact h6) q1 q3 (by rw [hsl]; exact k2_hasslot (q4 k hk)) rfl rfl hd fun H' e1 e2 e3 => ?_
    rw [hsl] at e1 ⊢
    exact kk H' _ e2 e3 (key H' e1) (h3.put e2 e3 hA)
  · rw [if_neg hfin] at hlay
    have h6 := u_store hfc hkC hkind hlay hi hty hn hfit
    refine W.putK cx.1 cx.2.1 (f := f) ⟨hown, hts _ hlink, ⟨_, _, _, hi⟩, hst⟩ (by rw [q2]; exact h6) q1 q3 (by rw [hsl]; exact k2_hasslot (q4 k hk)) rfl rfl hd fun H' e1 e2 e3 => ?_
    rw [hsl] at e1 ⊢
    exact kk H' _ e2 e3 (key H' e1) (h3.put e2 e3 hA)
theorem z_q_base {τ : Nat} {H : Heap} (h2 : z_Pic base D τ P M s H) {a : Nat} (h : (z_kd P M a).1 ≠ 98) : base ≤ z_q base τ a := by
  unfold z_q
  by_cases e : a = 300000
  · rw [if_pos e]
    unfold z_kd at h
    rw [if_pos e] at h
    by_cases hl : P.1 = true ∧ P.2 ≠ 0
    · have := ((h2.2.2.1 hl.1).2 hl.2).1
      omega
    · rw [if_neg hl] at h
      exact absurd rfl h
  · rw [if_neg e]
    omega
theorem z_vpV {n : Nat} {f : Nat → Value} {j : Nat} (hj : j < n) : vp_V ((List.range n).map f) j = f j := by
  show List.getD _ j Value.null = _
  rw [List.getD_eq_getElem?_getD, List.getElem?_map, List.getElem?_range hj]
  rfl
theorem z_up_eq {α : Type} (f : Nat → Nat → α) (a k : Nat) (x : α) : z_up f a k x a k = x := if_pos ⟨rfl, rfl⟩
theorem z_up_ne {α : Type} (f : Nat → Nat → α) {a k a' k' : Nat} (x : α) (h : ¬ (a' = a ∧ k' = k)) : z_up f a k x a' k' = f a' k' := if_neg h
theorem z_kd_obj {a ci : Nat} (hkd : z_kd P M a = (ci, 0)) (hc : ci < 50) : (z_kd P M a).1 ≠ 98 := by rw [hkd]; show ci ≠ 98; omega
theorem z_s_putI (cx : z_Cx p s m args meth c cc nL own) {idx ci k a N : Nat} {C : String} {T : u_T} {x : Int} (hd : decode cc pc = .ok (.putfield idx, 3)) (hc : vwCl[ci]? = some (C, T, N)) (hk : k < N) (hlink : Jvm.Cond.fieldLink own idx (T k).1 (T k).2.1 (T k).2.2.1 ∈ z_W0) (hkd : z_kd P M a = (ci, 0))
    (ini : (T k).2.2.2 = true → meth.name = "<init>" ∧ (T k).1 = own) (hty : z_FT ci k = 1 ∨ (z_FT ci k = 2 ∧ (x = 0 ∨ x = 1)))
    (h : z_Wm p l e R s m args below meth c Q base D sp nL M0 (pc + 3) P L r (z_setI M a k x)) : z_Wm p l e R s m args below meth c Q base D sp nL M0 pc P L (z_i x :: z_r (some a) :: r) M := fun τ χ ls H locs cells slots h1 h2 h3 h4 h5 => by
  obtain ⟨hN, -, -, ty, hty0, htys⟩ := z_cls ci C T N hc
  have hci : ci < 50 := by
    have := (List.getElem?_eq_some_iff.mp hc).1
    have h12 : vwCl.length = 12 := rfl
    omega
  have h98 := z_kd_obj hkd hci
  have hq : z_ad base τ χ sp a = z_q base τ a := z_ad_q h2 h98
  have hT : narrow (ty k) (.int (Int32.ofInt x)) = .int (Int32.ofInt x) ∧ fits (ty k) (.int (Int32.ofInt x)) = true := by
    rcases htys k hk with ⟨h0, -⟩ | ⟨-, h1⟩ | ⟨h0, h1⟩
    · omega
    · rw [h1]; exact ⟨rfl, rfl⟩
    · rw [h1]
      rcases hty with h9 | ⟨-, rfl | rfl⟩
      · omega
      · exact ⟨by decide, by decide⟩
      · exact ⟨by decide, by decide⟩
  have hne : z_FT ci k ≠ 0 := by omega
  have hgo : W p l e R s m args below meth c H locs cells slots Q (F0 m pc ls (.int (Int32.ofInt x) :: .ref (z_q base τ a) :: r.map (z_gv (z_ad base τ χ sp)))) := by
    refine z_put cx hd hc hk hlink hkd ini (hty0 k hk) hT.1 hT.2 h2 h3 (z_q_base h2 h98) fun H1 locs1 k1 k2 k3 k4 => ?_
    refine h τ χ ls H1 locs1 cells slots h1 (z_Pic_set h2 h98 rfl k1 k2 (fun b hb => ⟨fun j => z_up_ne _ _ (fun z => hb z.1), fun _ => rfl, fun _ => rfl⟩) h2.2.2.2.2 ?_) k4 h4 h5
    rw [hkd]
    refine ⟨fun _ => k3 _ fun j hj => ?_, fun z => ?_, fun z => ?_, fun z => ?_, fun z => ?_⟩
    · show vp_V ((List.range (z_FN ci)).map _) j = _
      rw [z_vpV (by rw [hN]; exact hj)]
      by_cases ej : j = k
      · subst ej
        rw [if_pos rfl]
        unfold z_fv
        rw [if_neg hne]
        show Value.int (Int32.ofInt (z_up _ _ _ _ _ _)) = _
        rw [z_up_eq]
      · rw [if_neg ej]
        unfold z_fv
        show z_gv _ (if _ then _ else z_i (z_up _ _ _ _ _ _)) = _
        rw [z_up_ne _ _ (fun z => ej z.2)]
        rfl
    all_goals (exfalso; have z' : ci = _ := z; omega)
  rw [← hq] at hgo
  exact hgo
theorem z_s_putR (cx : z_Cx p s m args meth c cc nL own) {idx ci k a b N : Nat} {C : String} {T : u_T} (hd : decode cc pc = .ok (.putfield idx, 3)) (hc : vwCl[ci]? = some (C, T, N)) (hk : k < N) (hlink : Jvm.Cond.fieldLink own idx (T k).1 (T k).2.1 (T k).2.2.1 ∈ z_W0) (hkd : z_kd P M a = (ci, 0))
    (ini : (T k).2.2.2 = true → meth.name = "<init>" ∧ (T k).1 = own) (hty : z_FT ci k = 0) (hb : b < 300000)
    (h : z_Wm p l e R s m args below meth c Q base D sp nL M0 (pc + 3) P L r (z_setR M a k (some b))) : z_Wm p l e R s m args below meth c Q base D sp nL M0 pc P L (z_r (some b) :: z_r (some a) :: r) M := fun τ χ ls H locs cells slots h1 h2 h3 h4 h5 => by
  obtain ⟨hN, -, -, ty, hty0, htys⟩ := z_cls ci C T N hc
  have hci : ci < 50 := by
    have := (List.getElem?_eq_some_iff.mp hc).1
    have h12 : vwCl.length = 12 := rfl
    omega
  have h98 := z_kd_obj hkd hci
  have hq : z_ad base τ χ sp a = z_q base τ a := z_ad_q h2 h98
  have hqb : z_ad base τ χ sp b = base + b := by rw [z_ad, if_pos hb]
  have hT : ∀ x, narrow (ty k) (.ref x) = .ref x ∧ fits (ty k) (.ref x) = true := by
    rcases htys k hk with ⟨-, h1⟩ | ⟨h0, -⟩ | ⟨h0, -⟩
    · exact (z_isref h1).2
    · omega
    · omega
  have hgo : W p l e R s m args below meth c H locs cells slots Q (F0 m pc ls (.ref (base + b) :: .ref (z_q base τ a) :: r.map (z_gv (z_ad base τ χ sp)))) := by
    refine z_put cx hd hc hk hlink hkd ini (hty0 k hk) (hT _).1 (hT _).2 h2 h3 (z_q_base h2 h98) fun H1 locs1 k1 k2 k3 k4 => ?_
    refine h τ χ ls H1 locs1 cells slots h1 (z_Pic_set h2 h98 rfl k1 k2 (fun b hb => ⟨fun _ => rfl, fun _ => rfl, fun j => z_up_ne _ _ (fun z => hb z.1)⟩) ?_ ?_) k4 h4 h5
    · intro a' k' r' hr'
      by_cases e9 : a' = a ∧ k' = k
      · obtain ⟨rfl, rfl⟩ := e9
        have : z_up (z_R M) a' k' (some b) a' k' = some r' := hr'
        rw [z_up_eq] at this
        cases this
        exact hb
      · have : z_up (z_R M) a k (some b) a' k' = some r' := hr'
        rw [z_up_ne _ _ e9] at this
        exact h2.2.2.2.2 a' k' r' this
    rw [hkd]
    refine ⟨fun _ => k3 _ fun j hj => ?_, fun z => ?_, fun z => ?_, fun z => ?_, fun z => ?_⟩
    · show vp_V ((List.range (z_FN ci)).map _) j = _
      rw [z_vpV (by rw [hN]; exact hj)]
      by_cases ej : j = k
      · subst ej
        rw [if_pos rfl]
        unfold z_fv
        rw [if_pos hty]
        show z_gv _ (z_r (z_up _ _ _ _ _ _)) = _
        rw [z_up_eq]
        rfl
      · rw [if_neg ej]
        unfold z_fv
        show z_gv _ (if _ then z_r (z_up _ _ _ _ _ _) else _) = _
        rw [z_up_ne _ _ (fun z => ej z.2)]
        rfl
    all_goals (exfalso; have z' : ci = _ := z; omega)
  rw [← hq, ← hqb] at hgo
  exact hgo
theorem z_s_iastore (cx : z_Cx p s m args meth c cc nL own) {a n : Nat} {x v : Int} (hd : decode cc pc = .ok (.iastore, 1)) (hp : P.2 ≤ 1000000) (hkd : z_kd P M a = (100, n)) (h0 : 0 ≤ x) (hx : x < (n : Int))
    (h : z_Wm p l e R s m args below meth c Q base D sp nL M0 (pc + 1) P L r (z_setI M a x.toNat v)) : z_Wm p l e R s m args below meth c Q base D sp nL M0 pc P L (z_i v :: z_i x :: z_r (some a) :: r) M := fun τ χ ls H locs cells slots h1 h2 h3 h4 h5 => by
  have h98 : (z_kd P M a).1 ≠ 98 := by rw [hkd]; show 100 ≠ 98; omega
  have hq : z_ad base τ χ sp a = z_q base τ a := z_ad_q h2 h98
  have hcell := h2.2.2.2.1 a
  rw [hkd] at hcell
  obtain ⟨cA, g1, g2⟩ := hcell.2.1 rfl
  obtain ⟨e1, e2⟩ := z_cn h0 hx (z_kd_len hkd hp)
  refine W.iast cx.1 cx.2.1 (a := z_ad base τ χ sp a) (by rw [hq]; exact g2) (g1.1 n (fun j => .int (Int32.ofInt (z_I M a j)))) (fun q => by cases q) (by show ¬ (_ ∨ (arrV _ _ _).slots.size ≤ _); rw [arrV_size]; exact e2) rfl rfl hd fun H1 w1 w2 w3 => ?_
  rw [hq] at w1 w3
  refine h τ χ ls H1 _ cells slots h1 (z_Pic_set h2 h98 rfl w2 w3 (fun b hb => ⟨fun j => z_up_ne _ _ (fun z => hb z.1), fun _ => rfl, fun _ => rfl⟩) h2.2.2.2.2 ?_) (h3.put w2 (by rw [hq]; exact w3) (by rw [hq]; exact z_q_base h2 h98)) h4 h5
  rw [hkd]
  refine ⟨fun z => (by omega), fun _ => ⟨cA, g1, ?_⟩, fun z => (by cases z), fun z => (by cases z), fun z => (by cases z)⟩
  rw [w1, vp_cell_i, arrV_store, e1]
  refine congrArg some (congrArg (arrV cA n) (funext fun q => ?_))
  unfold updV
  show _ = Value.int (Int32.ofInt (z_up _ _ _ _ _ _))
  by_cases eq9 : q = x.toNat
  · rw [if_pos eq9, eq9, z_up_eq]
  · rw [if_neg eq9, z_up_ne _ _ (fun z => eq9 z.2)]
theorem z_s_lastore (cx : z_Cx p s m args meth c cc nL own) {a n : Nat} {x v : Int} (hd : decode cc pc = .ok (.lastore, 1)) (hp : P.2 ≤ 1000000) (hkd : z_kd P M a = (101, n)) (h0 : 0 ≤ x) (hx : x < (n : Int))
    (h : z_Wm p l e R s m args below meth c Q base D sp nL M0 (pc + 1) P L r (z_setJ M a x.toNat v)) : z_Wm p l e R s m args below meth c Q base D sp nL M0 pc P L (z_l v :: z_i x :: z_r (some a) :: r) M := fun τ χ ls H locs cells slots h1 h2 h3 h4 h5 => by
  have h98 : (z_kd P M a).1 ≠ 98 := by rw [hkd]; show 101 ≠ 98; omega
  have hq : z_ad base τ χ sp a = z_q base τ a := z_ad_q h2 h98
  have hcell := h2.2.2.2.1 a
  rw [hkd] at hcell
  obtain ⟨cA, g1, g2⟩ := hcell.2.2.1 rfl
  obtain ⟨e1, e2⟩ := z_cn h0 hx (z_kd_len hkd hp)
  refine W.last cx.1 cx.2.1 (a := z_ad base τ χ sp a) (by rw [hq]; exact g2) (g1.1 n (fun j => .long (Int64.ofInt (z_J M a j)))) (fun q => by cases q) (by show ¬ (_ ∨ (arrV _ _ _).slots.size ≤ _); rw [arrV_size]; exact e2) rfl rfl hd fun H1 w1 w2 w3 => ?_
  rw [hq] at w1 w3
  refine h τ χ ls H1 _ cells slots h1 (z_Pic_set h2 h98 rfl w2 w3 (fun b hb => ⟨fun _ => rfl, fun j => z_up_ne _ _ (fun z => hb z.1), fun _ => rfl⟩) h2.2.2.2.2 ?_) (h3.put w2 (by rw [hq]; exact w3) (by rw [hq]; exact z_q_base h2 h98)) h4 h5
  rw [hkd]
  refine ⟨fun z => (by omega), fun z => (by cases z), fun _ => ⟨cA, g1, ?_⟩, fun z => (by cases z), fun z => (by cases z)⟩
  rw [w1, vp_cell_l, arrV_store, e1]
  refine congrArg some (congrArg (arrV cA n) (funext fun q => ?_))
  unfold updV
  show _ = Value.long (Int64.ofInt (z_up _ _ _ _ _ _))
  by_cases eq9 : q = x.toNat
  · rw [if_pos eq9, eq9, z_up_eq]
  · rw [if_neg eq9, z_up_ne _ _ (fun z => eq9 z.2)]
theorem z_s_aastore (cx : z_Cx p s m args meth c cc nL own) {a b n : Nat} {x : Int} (hd : decode cc pc = .ok (.aastore, 1)) (hp : P.2 ≤ 1000000) (hkd : z_kd P M a = (103, n)) (hkb : z_kd P M b = (5, 0)) (h0 : 0 ≤ x) (hx : x < (n : Int)) (hb : b < 300000)
    (h : z_Wm p l e R s m args below meth c Q base D sp nL M0 (pc + 1) P L r (z_setR M a x.toNat (some b))) : z_Wm p l e R s m args below meth c Q base D sp nL M0 pc P L (z_r (some b) :: z_i x :: z_r (some a) :: r) M := fun τ χ ls H locs cells slots h1 h2 h3 h4 h5 => by
  have h98 : (z_kd P M a).1 ≠ 98 := by rw [hkd]; show 103 ≠ 98; omega
  have h98b : (z_kd P M b).1 ≠ 98 := by rw [hkb]; show 5 ≠ 98; omega
  have hq : z_ad base τ χ sp a = z_q base τ a := z_ad_q h2 h98
  have hqb : z_ad base τ χ sp b = z_q base τ b := z_ad_q h2 h98b
  have hqb2 : z_ad base τ χ sp b = base + b := by rw [z_ad, if_pos hb]
  have hcell := h2.2.2.2.1 a
  rw [hkd] at hcell
  obtain ⟨cA, g1, g2⟩ := hcell.2.2.2.2 rfl
  have hcellb := h2.2.2.2.1 b
  rw [hkb] at hcellb
  obtain ⟨r9, hr9, cellV, gv1, gv2, gv3, -⟩ := hcellb.1 (by show 5 < 50; omega)
  have hc5 : vwCl[5]? = some (RX6, TX6, 4) := rfl
  have hr : r9 = (RX6, TX6, 4) := Option.some.inj (hr9.symm.trans hc5)
  subst hr
  obtain ⟨e1, e2⟩ := z_cn h0 hx (z_kd_len hkd hp)
  have hlt : (Int32.ofInt x).toNatClampNeg < n := Nat.not_le.mp fun q => e2 (Or.inr q)
  have hn0 : ¬ Int32.ofInt x < 0 := fun q => e2 (Or.inl q)
  have hcls := (h2.1.1 5 _ hc5).2
  obtain ⟨kA, comp, k1, k2, k3, -⟩ := g1.2
  have hcomp : comp = D.1 5 := Option.some.inj (k3.symm.trans hcls.1)
  subst hcomp
  obtain ⟨kC, hkC, -⟩ := hcls.2
  refine W.aast cx.1 cx.2.1 (a := z_ad base τ χ sp a) (v := z_ad base τ χ sp b) (by rw [hq]; exact g2) (fun q h => by cases h) (fun h => by cases h) k1 k2 rfl hkC ⟨hn0, by show _ < (arrV _ _ _).slots.size; rw [arrV_size]; exact hlt⟩ (by rw [hqb]; exact gv1) (fun q h => by rw [gv3] at h; cases h) (by rw [gv2]; exact hkC) (by rw [gv2]; exact va_assign hcls) rfl rfl hd fun H1 w1 w2 w3 => ?_
  rw [hq] at w1 w3
  refine h τ χ ls H1 _ cells slots h1 (z_Pic_set h2 h98 rfl w2 w3 (fun b hb => ⟨fun _ => rfl, fun _ => rfl, fun j => z_up_ne _ _ (fun z => hb z.1)⟩) ?_ ?_) (h3.put w2 (by rw [hq]; exact w3) (by rw [hq]; exact z_q_base h2 h98)) h4 h5
  · intro a' k' r' hr'
    by_cases e9 : a' = a ∧ k' = x.toNat
    · obtain ⟨rfl, rfl⟩ := e9
      have : z_up (z_R M) a' x.toNat (some b) a' x.toNat = some r' := hr'
      rw [z_up_eq] at this
      cases this
      exact hb
    · have : z_up (z_R M) a x.toNat (some b) a' k' = some r' := hr'
      rw [z_up_ne _ _ e9] at this
      exact h2.2.2.2.2 a' k' r' this
  rw [hkd]
  refine ⟨fun z => (by omega), fun z => (by cases z), fun z => (by cases z), fun z => (by cases z), fun _ => ⟨cA, g1, ?_⟩⟩
  rw [w1, vp_cell_q, vp_cell_q, arrV_store, e1, hqb2]
  refine congrArg some (congrArg (arrV cA n) (funext fun q => ?_))
  unfold updV
  show _ = va_rf (Option.map (fun r => base + r) (z_up _ _ _ _ _ _))
  by_cases eq9 : q = x.toNat
  · rw [if_pos eq9, eq9, z_up_eq]
    rfl
  · rw [if_neg eq9, z_up_ne _ _ (fun z => eq9 z.2)]
end ZWrite
