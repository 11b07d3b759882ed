/-! ===== instructions that make cells ===== -/
section ZNew
variable {p : Program} {l : Launch} {e : Env} {R : Room} {s : State} {m : MethodId} {args : Array Value} {below : List Frame} {meth : Method} {c : Code} {Q : State → Prop} {cc : ByteArray} {nL : Nat} {own : String} {base : Nat} {D : va_G} {sp : Nat → Nat} {M0 : z_M}
variable {pc : Nat} {P : z_P} {L : z_L} {S r : List z_Av} {M : z_M}
theorem z_Pic_new {τ : Nat} {M' : z_M} {H H1 : Heap} {k : Nat} (h2 : z_Pic base D τ P M s H) (hp : P.1 = false) (hn : z_n M' = z_n M + k) (hle : z_n M + k ≤ z_KL.length) (hsz : H1.size = H.size + k) (ho : ∀ q, q < H.size → H1[q]? = H[q]?) (hs : ∀ a, a < z_n M → z_same M M' a)
    (hr : ∀ a k r, z_R M' a k = some r → r < 300000) (hc : ∀ j, j < k → z_cell base D s M' H1 (z_KL.getD (z_n M + j) (98, 0)) (z_n M + j) (base + (z_n M + j))) : z_Pic base D τ P M' s H1 := by
  obtain ⟨g1, g2, g3, g4, g5⟩ := h2
  obtain ⟨e1, e2⟩ := g2 hp
  have hpt : ¬ P.1 = true := by rw [hp]; exact Bool.false_ne_true
  refine ⟨g1, fun _ => ⟨by rw [hsz, e1, hn]; omega, by omega⟩, fun z => absurd z hpt, fun a => ?_, hr⟩
  by_cases ea : a = 300000
  · refine z_cell98 ?_
    unfold z_kd
    rw [if_pos ea, if_neg (fun z => hpt z.1)]
  · have hq : z_q base τ a = base + a := if_neg ea
    by_cases hl : a < z_n M
    · have hkd : z_kd P M' a = z_kd P M a := by
        unfold z_kd
        rw [if_neg ea, if_neg ea, if_neg hpt, if_neg hpt, if_pos hl, if_pos (by omega)]
      rw [hkd]
      exact z_cell_keep (g4 a) (hs a hl) (ho _ (by rw [hq, e1]; omega))
    · by_cases hl2 : a < z_n M + k
      · have hkd : z_kd P M' a = z_KL.getD a (98, 0) := by
          unfold z_kd
          rw [if_neg ea, if_neg hpt, if_pos (by omega)]
        rw [hkd, hq]
        have := hc (a - z_n M) (by omega)
        rw [show z_n M + (a - z_n M) = a by omega] at this
        exact this
      · refine z_cell98 ?_
        unfold z_kd
        rw [if_neg ea, if_neg hpt, if_neg (by omega)]
theorem z_S_new {H H1 : Heap} {locs : List Loc} (h3 : va_S (fun q => base ≤ q) s.heap H locs) (hz : H.size ≤ H1.size) (ho : ∀ q, q < H.size → H1[q]? = H[q]?) : va_S (fun q => base ≤ q) s.heap H1 locs :=
  ⟨Nat.le_trans h3.1 hz, fun x h1 h2 => (ho x (Nat.lt_of_lt_of_le h1 h3.1)).trans (h3.2.1 x h1 h2), h3.2.2⟩
theorem z_row_ne {α : Type} (f : Nat → Nat → α) {a b : Nat} (g : Nat → α) (k : Nat) (h : b ≠ a) : z_row f a g b k = f b k := if_neg h
theorem z_row_eq {α : Type} (f : Nat → Nat → α) (a : Nat) (g : Nat → α) (k : Nat) : z_row f a g a k = g k := if_pos rfl
theorem z_s_newI (cx : z_Cx p s m args meth c cc nL own) {x : Nat} (hd : decode cc pc = .ok (.newarray .int, 2)) (hw : Jvm.Cond.arrayClass .int ∈ z_W0) (hp : P.1 = false) (hx : x ≤ 1000000) (hn : z_n M < z_KL.length) (hk : z_KL.getD (z_n M) (98, 0) = (100, x)) (hc : z_n M + 1 ≤ R.cells + z_n M0) (hs : z_s M + x ≤ R.slots + z_s M0)
    (h : z_Wm p l e R s m args below meth c Q base D sp nL M0 (pc + 2) P L (z_r (some (z_n M)) :: r) (z_n M + 1, z_s M + x, z_R M, z_row (z_I M) (z_n M) (fun _ => 0), z_J M)) : z_Wm p l e R s m args below meth c Q base D sp nL M0 pc P L (z_i (x : Int) :: r) M := fun τ χ ls H locs cells slots h1 h2 h3 h4 h5 => by
  have hi : (Int32.ofInt (x : Int)).toInt = (x : Int) := z_w_id (by omega) (by omega)
  obtain ⟨e1, e2⟩ := h2.2.1 hp
  refine va_newaK (atype := .int) (N := x) (h := H.size) cx.1 cx.2.1 (cx.2.2.2.2.1 _ hw) rfl hd rfl (fun z => ?_) ?_ ?_ (by omega) (by omega) rfl fun H1 cA w1 w2 w3 w4 w5 => ?_
  · have := Int32.lt_iff_toInt_lt.mp z
    rw [hi] at this
    simp at this
    omega
  · rw [← Int32.toNat_toInt, hi]
    rfl
  · show x * 4 ≤ _
    omega
  · have hgo := h τ χ ls H1 locs (cells + 1) (slots + x) h1 (z_Pic_new (k := 1) h2 hp rfl hn (by omega) w3 (fun a ha => ⟨fun k => z_row_ne (z_I M) (fun _ => 0) k (Nat.ne_of_lt ha), fun _ => rfl, fun _ => rfl⟩) h2.2.2.2.2 ?_) (z_S_new h3 (by omega) w3) (by show _ = z_n M + 1; omega) (by show _ = z_s M + x; omega)
    · have hq : z_ad base τ χ sp (z_n M) = H.size := by
        rw [z_ad, if_pos (by have := z_KL_len; omega), e1]
      show W p l e R s m args below meth c H1 locs (cells + 1) (slots + x) Q (F0 m (pc + 2) ls (.ref H.size :: _))
      rw [← hq]
      exact hgo
    · intro j hj
      have hj0 : j = 0 := by omega
      subst hj0
      show z_cell base D s _ H1 (z_KL.getD (z_n M) (98, 0)) (z_n M) (base + z_n M)
      rw [hk]
      refine ⟨fun z => (by cases Nat.not_lt.mpr (by decide : 50 ≤ 100) z), fun _ => ⟨cA, ⟨w4, w5⟩, ?_⟩, fun z => (by cases z), fun z => (by cases z), fun z => (by cases z)⟩
      rw [← e1, w1, vp_cell_i]
      refine congrArg some (congrArg (arrV cA x) (funext fun q => ?_))
      show defaultValue .int = Value.int (Int32.ofInt (z_row (z_I M) (z_n M) (fun _ => 0) (z_n M) q))
      rw [z_row_eq]
      rfl
theorem z_s_newJ (cx : z_Cx p s m args meth c cc nL own) {x : Nat} (hd : decode cc pc = .ok (.newarray .long, 2)) (hw : Jvm.Cond.arrayClass .long ∈ z_W0) (hp : P.1 = false) (hx : x ≤ 1000000) (hn : z_n M < z_KL.length) (hk : z_KL.getD (z_n M) (98, 0) = (101, x)) (hc : z_n M + 1 ≤ R.cells + z_n M0) (hs : z_s M + x ≤ R.slots + z_s M0)
    (h : z_Wm p l e R s m args below meth c Q base D sp nL M0 (pc + 2) P L (z_r (some (z_n M)) :: r) (z_n M + 1, z_s M + x, z_R M, z_I M, z_row (z_J M) (z_n M) (fun _ => 0))) : z_Wm p l e R s m args below meth c Q base D sp nL M0 pc P L (z_i (x : Int) :: r) M := fun τ χ ls H locs cells slots h1 h2 h3 h4 h5 => by
  have hi : (Int32.ofInt (x : Int)).toInt = (x : Int) := z_w_id (by omega) (by omega)
  obtain ⟨e1, e2⟩ := h2.2.1 hp
  refine va_newaK (atype := .long) (N := x) (h := H.size) cx.1 cx.2.1 (cx.2.2.2.2.1 _ hw) rfl hd rfl (fun z => ?_) ?_ ?_ (by omega) (by omega) rfl fun H1 cA w1 w2 w3 w4 w5 => ?_
  · have := Int32.lt_iff_toInt_lt.mp z
    rw [hi] at this
    simp at this
    omega
  · rw [← Int32.toNat_toInt, hi]
    rfl
  · show x * 8 ≤ _
    omega
  · have hgo := h τ χ ls H1 locs (cells + 1) (slots + x) h1 (z_Pic_new (k := 1) h2 hp rfl hn (by omega) w3 (fun a ha => ⟨fun _ => rfl, fun k => z_row_ne (z_J M) (fun _ => 0) k (Nat.ne_of_lt ha), fun _ => rfl⟩) h2.2.2.2.2 ?_) (z_S_new h3 (by omega) w3) (by show _ = z_n M + 1; omega) (by show _ = z_s M + x; omega)
    · have hq : z_ad base τ χ sp (z_n M) = H.size := by
        rw [z_ad, if_pos (by have := z_KL_len; omega), e1]
      show W p l e R s m args below meth c H1 locs (cells + 1) (slots + x) Q (F0 m (pc + 2) ls (.ref H.size :: _))
      rw [← hq]
      exact hgo
    · intro j hj
      have hj0 : j = 0 := by omega
      subst hj0
      show z_cell base D s _ H1 (z_KL.getD (z_n M) (98, 0)) (z_n M) (base + z_n M)
      rw [hk]
      refine ⟨fun z => (by cases Nat.not_lt.mpr (by decide : 50 ≤ 101) z), fun z => (by cases z), fun _ => ⟨cA, ⟨w4, w5⟩, ?_⟩, fun z => (by cases z), fun z => (by cases z)⟩
      rw [← e1, w1, vp_cell_l]
      refine congrArg some (congrArg (arrV cA x) (funext fun q => ?_))
      show defaultValue .long = Value.long (Int64.ofInt (z_row (z_J M) (z_n M) (fun _ => 0) (z_n M) q))
      rw [z_row_eq]
      rfl
theorem z_s_newQ (cx : z_Cx p s m args meth c cc nL own) {idx x : Nat} (hd : decode cc pc = .ok (.anewarray idx, 3)) (hw : Jvm.Cond.classLink own idx "LacedHoles$Scene" ∈ z_W0) (hw2 : (Jvm.Cond.arrayOver (.object "LacedHoles$Scene")).before args s = true) (hp : P.1 = false) (hx : x ≤ 1000000) (hn : z_n M < z_KL.length) (hk : z_KL.getD (z_n M) (98, 0) = (103, x)) (hc : z_n M + 1 ≤ R.cells + z_n M0) (hs : z_s M + x ≤ R.slots + z_s M0)
    (h : z_Wm p l e R s m args below meth c Q base D sp nL M0 (pc + 3) P L (z_r (some (z_n M)) :: r) (z_n M + 1, z_s M + x, z_row (z_R M) (z_n M) (fun _ => none), z_I M, z_J M)) : z_Wm p l e R s m args below meth c Q base D sp nL M0 pc P L (z_i (x : Int) :: r) M := fun τ χ ls H locs cells slots h1 h2 h3 h4 h5 => by
  have hi : (Int32.ofInt (x : Int)).toInt = (x : Int) := z_w_id (by omega) (by omega)
  have hin : (Int32.ofInt (x : Int)).toNatClampNeg = x := by
    rw [← Int32.toNat_toInt, hi]
    rfl
  obtain ⟨e1, e2⟩ := h2.2.1 hp
  refine W.anew cx.1 cx.2.1 cx.2.2.2.1 (cx.2.2.2.2.1 _ hw) hw2 rfl hd rfl (fun z => ?_) (by rw [hin]; omega) (by omega) (by rw [hin]; omega) fun cA kA comp f1 f2 f3 f4 => ?_
  · have := Int32.lt_iff_toInt_lt.mp z
    rw [hi] at this
    simp at this
    omega
  rw [hin]
  generalize hH1 : H.push ({ cls := cA, slots := Array.replicate x .null, vm := .none } : Cell) = H1
  have w2 : H1.size = H.size + 1 := by rw [← hH1, Array.size_push]
  have w1 : H1[H.size]? = some (arrV cA x (fun _ => .null)) := by rw [← hH1, Array.getElem?_push_size, ← arrV_new]
  have w3 : ∀ q : Nat, q < H.size → H1[q]? = H[q]? := fun q hq => by rw [← hH1, Array.getElem?_push, if_neg (Nat.ne_of_lt hq)]
  have hAr : ArrOfT s cA (.object "LacedHoles$Scene") := fun N z => ⟨(fun k h => by cases h), kA, f2, comp, f3⟩
  have hgo := h τ χ ls H1 locs (cells + 1) (slots + x) h1 (z_Pic_new (k := 1) h2 hp rfl hn (by omega) w3 (fun a ha => ⟨fun _ => rfl, fun _ => rfl, fun k => z_row_ne (z_R M) (fun _ => none) k (Nat.ne_of_lt ha)⟩) ?_ ?_) (z_S_new h3 (by omega) w3) (by show _ = z_n M + 1; omega) (by show _ = z_s M + x; omega)
  · have hq : z_ad base τ χ sp (z_n M) = H.size := by
      rw [z_ad, if_pos (by have := z_KL_len; omega), e1]
    show W p l e R s m args below meth c H1 locs (cells + 1) (slots + x) Q (F0 m (pc + 3) ls (.ref H.size :: _))
    rw [← hq]
    exact hgo
  · intro a' k' r' hr'
    have hr2 : z_row (z_R M) (z_n M) (fun _ => none) a' k' = some r' := hr'
    by_cases e9 : a' = z_n M
    · subst e9
      rw [z_row_eq] at hr2
      cases hr2
    · rw [z_row_ne _ _ _ e9] at hr2
      exact h2.2.2.2.2 _ _ _ hr2
  · intro j hj
    have hj0 : j = 0 := by omega
    subst hj0
    show z_cell base D s _ H1 (z_KL.getD (z_n M) (98, 0)) (z_n M) (base + z_n M)
    rw [hk]
    refine ⟨fun z => (by cases Nat.not_lt.mpr (by decide : 50 ≤ 103) z), fun z => (by cases z), fun z => (by cases z), fun z => (by cases z), fun _ => ⟨cA, ⟨hAr, kA, comp, f2, f3, f4, f1⟩, ?_⟩⟩
    rw [← e1, w1, vp_cell_q]
    refine congrArg some (congrArg (arrV cA x) (funext fun q => ?_))
    show Value.null = va_rf (Option.map (fun r => base + r) (z_row (z_R M) (z_n M) (fun _ => none) (z_n M) q))
    rw [z_row_eq]
    rfl
theorem z_s_new (cx : z_Cx p s m args meth c cc nL own) {idx ci N : Nat} {C : String} {T : u_T} (hd : decode cc pc = .ok (.new idx, 3)) (hc0 : vwCl[ci]? = some (C, T, N)) (hw : Jvm.Cond.classLink own idx C ∈ z_W0) (hw2 : Jvm.Cond.instantiable C N ∈ z_W0) (hw3 : Jvm.Cond.initialized C ∈ z_W0) (hp : P.1 = false) (hn : z_n M < z_KL.length) (hk : z_KL.getD (z_n M) (98, 0) = (ci, 0)) (hc : z_n M + 1 ≤ R.cells + z_n M0) (hs : z_s M + z_FN ci ≤ R.slots + z_s M0)
    (h : z_Wm p l e R s m args below meth c Q base D sp nL M0 (pc + 3) P L (z_r (some (z_n M)) :: S) (z_n M + 1, z_s M + z_FN ci, z_row (z_R M) (z_n M) (fun _ => none), z_row (z_I M) (z_n M) (fun _ => 0), z_J M)) : z_Wm p l e R s m args below meth c Q base D sp nL M0 pc P L S M := fun τ χ ls H locs cells slots h1 h2 h3 h4 h5 => by
  obtain ⟨hN, hwl, hnm, ty, hty0, htys⟩ := z_cls ci C T N hc0
  have hci : ci < 50 := by
    have := (List.getElem?_eq_some_iff.mp hc0).1
    have h12 : vwCl.length = 12 := rfl
    omega
  obtain ⟨e1, e2⟩ := h2.2.1 hp
  have hKn := h2.1.1 ci _ hc0
  refine W.newcK cx.1 cx.2.1 cx.2.2.2.1 (cx.2.2.2.2.1 _ hw) (cx.2.2.2.2.1 _ hw2) (cx.2.2.2.2.1 _ hw3) rfl hd (by omega) (by omega) hKn.2.1 (h := H.size) rfl fun H1 kC hkC w1 w2 w3 => ?_
  have hgo := h τ χ ls H1 locs (cells + 1) (slots + N) h1 (z_Pic_new (k := 1) h2 hp rfl hn (by omega) w3 (fun a ha => ⟨fun k => z_row_ne (z_I M) (fun _ => 0) k (Nat.ne_of_lt ha), fun _ => rfl, fun k => z_row_ne (z_R M) (fun _ => none) k (Nat.ne_of_lt ha)⟩) ?_ ?_) (z_S_new h3 (by omega) w3) (by show _ = z_n M + 1; omega) (by show _ = z_s M + z_FN ci; omega)
  · have hq : z_ad base τ χ sp (z_n M) = H.size := by
      rw [z_ad, if_pos (by have := z_KL_len; omega), e1]
    show W p l e R s m args below meth c H1 locs (cells + 1) (slots + N) Q (F0 m (pc + 3) ls (.ref H.size :: _))
    rw [← hq]
    exact hgo
  · intro a' k' r' hr'
    have hr2 : z_row (z_R M) (z_n M) (fun _ => none) a' k' = some r' := hr'
    by_cases e9 : a' = z_n M
    · subst e9
      rw [z_row_eq] at hr2
      cases hr2
    · rw [z_row_ne _ _ _ e9] at hr2
      exact h2.2.2.2.2 _ _ _ hr2
  · intro j hj
    have hj0 : j = 0 := by omega
    subst hj0
    show z_cell base D s _ H1 (z_KL.getD (z_n M) (98, 0)) (z_n M) (base + z_n M)
    rw [hk]
    refine ⟨fun _ => ⟨_, hc0, ?_⟩, fun z => ?_, fun z => ?_, fun z => ?_, fun z => ?_⟩
    · show t_OB (base + z_n M) (D.1 ci) N (D.2 ci) H1 _
      rw [← e1]
      refine (u_born ty cx.2.2.2.2.1 hwl hKn hkC w1 hty0).to fun j hj => ?_
      show _ = vp_V _ j
      rw [z_vpV (by rw [hN]; exact hj)]
      unfold z_fv
      rcases htys j hj with ⟨h0, h1⟩ | ⟨h0, h1⟩ | ⟨h0, h1⟩
      · rw [if_pos h0, (z_isref h1).1]
        show _ = z_gv _ (z_r (z_row (z_R M) (z_n M) (fun _ => none) (z_n M) j))
        rw [z_row_eq]
        rfl
      · rw [if_neg (by show ¬ z_FT ci j = 0; rw [h0]; decide), h1]
        show _ = z_gv _ (z_i (z_row (z_I M) (z_n M) (fun _ => 0) (z_n M) j))
        rw [z_row_eq]
        rfl
      · rw [if_neg (by show ¬ z_FT ci j = 0; rw [h0]; decide), h1]
        show _ = z_gv _ (z_i (z_row (z_I M) (z_n M) (fun _ => 0) (z_n M) j))
        rw [z_row_eq]
        rfl
    all_goals (exfalso; have z' : ci = _ := z; omega)
/-- a row for itself: a method that runs over a world already made -/
theorem z_s_newT (cx : z_Cx p s m args meth c cc nL own) {x : Nat} (hd : decode cc pc = .ok (.newarray .int, 2)) (hw : Jvm.Cond.arrayClass .int ∈ z_W0) (hp : P.1 = true) (hx0 : 0 < x) (hx : x ≤ 1000000) (hr : ∀ v ∈ r, v ≠ z_r (some 300000)) (hL : ∀ v ∈ L, v ≠ some (z_r (some 300000))) (hc : z_n M + 1 ≤ R.cells + z_n M0) (hs : z_s M + x ≤ R.slots + z_s M0)
    (h : z_Wm p l e R s m args below meth c Q base D sp nL M0 (pc + 2) (true, x) L (z_r (some 300000) :: r) (z_n M + 1, z_s M + x, z_R M, z_row (z_I M) 300000 (fun _ => 0), z_J M)) : z_Wm p l e R s m args below meth c Q base D sp nL M0 pc P L (z_i (x : Int) :: r) M := fun τ χ ls H locs cells slots h1 h2 h3 h4 h5 => by
  have hi : (Int32.ofInt (x : Int)).toInt = (x : Int) := z_w_id (by omega) (by omega)
  obtain ⟨g1, g2, g3, g4, g5⟩ := h2
  have e1 := (g3 hp).1
  refine va_newaK (atype := .int) (N := x) (h := H.size) cx.1 cx.2.1 (cx.2.2.2.2.1 _ hw) rfl hd rfl (fun z => ?_) ?_ ?_ (by omega) (by omega) rfl fun H1 cA w1 w2 w3 w4 w5 => ?_
  · have := Int32.lt_iff_toInt_lt.mp z
    rw [hi] at this
    simp at this
    omega
  · rw [← Int32.toNat_toInt, hi]
    rfl
  · show x * 4 ≤ _
    omega
  have hgv : ∀ v : z_Av, v ≠ z_r (some 300000) → z_gv (z_ad base H.size χ sp) v = z_gv (z_ad base τ χ sp) v := by
    intro v hv
    rcases v with y | y | _ | a
    · rfl
    · rfl
    · rfl
    · have ha : a ≠ 300000 := fun z => hv (by rw [z])
      show Value.ref _ = Value.ref _
      unfold z_ad
      rw [if_neg ha, if_neg ha]
  have h1' : z_has (z_ad base H.size χ sp) ls nL L := by
    refine z_has_weak h1.1 h1.2 fun j v hj => z_mem_lo.mpr ⟨j, v, hj, ?_⟩
    rw [hgv v (fun z => hL _ (List.mem_of_getElem? hj) (by rw [z])), Nat.zero_add]
  have hst : r.map (z_gv (z_ad base H.size χ sp)) = r.map (z_gv (z_ad base τ χ sp)) := List.map_congr_left fun v hv => hgv v (hr v hv)
  have hPic : z_Pic base D H.size (true, x) (z_n M + 1, z_s M + x, z_R M, z_row (z_I M) 300000 (fun _ => 0), z_J M) s H1 := by
    refine ⟨g1, fun z => (by cases z), fun _ => ⟨by omega, fun _ => ⟨e1, by omega⟩⟩, fun a => ?_, g5⟩
    by_cases ea : a = 300000
    · have hkd : z_kd (true, x) (z_n M + 1, z_s M + x, z_R M, z_row (z_I M) 300000 (fun _ => 0), z_J M) a = (100, x) := by
        unfold z_kd
        rw [if_pos ea, if_pos ⟨rfl, by show x ≠ 0; omega⟩]
      rw [hkd]
      have hq : z_q base H.size a = H.size := if_pos ea
      rw [hq]
      refine ⟨fun z => (by cases Nat.not_lt.mpr (by decide : 50 ≤ 100) z), fun _ => ⟨cA, ⟨w4, w5⟩, ?_⟩, fun z => (by cases z), fun z => (by cases z), fun z => (by cases z)⟩
      rw [w1, vp_cell_i]
      refine congrArg some (congrArg (arrV cA x) (funext fun q => ?_))
      show defaultValue .int = Value.int (Int32.ofInt (z_row (z_I M) 300000 (fun _ => 0) a q))
      rw [ea, z_row_eq]
      rfl
    · have hkd : z_kd (true, x) (z_n M + 1, z_s M + x, z_R M, z_row (z_I M) 300000 (fun _ => 0), z_J M) a = z_kd P M a := by
        unfold z_kd
        rw [if_neg ea, if_neg ea, if_pos hp, if_pos (rfl : ((true, x) : z_P).1 = true)]
      rw [hkd]
      have hq : z_q base H.size a = z_q base τ a := by unfold z_q; rw [if_neg ea, if_neg ea]
      rw [hq]
      by_cases h98 : (z_kd P M a).1 = 98
      · exact z_cell98 h98
      · refine z_cell_keep (g4 a) ⟨fun k => z_row_ne (z_I M) (fun _ => 0) k ea, fun _ => rfl, fun _ => rfl⟩ (w3 _ ?_)
        have := (z_kd_lt h98 ea).1 hp
        unfold z_q
        rw [if_neg ea]
        omega
  have hgo := h H.size χ ls H1 locs (cells + 1) (slots + x) h1' hPic (z_S_new h3 (by omega) w3) (by show _ = z_n M + 1; omega) (by show _ = z_s M + x; omega)
  have hq : z_ad base H.size χ sp 300000 = H.size := by
    unfold z_ad
    rw [if_neg (by omega), if_pos rfl]
  show W p l e R s m args below meth c H1 locs (cells + 1) (slots + x) Q (F0 m (pc + 2) ls (.ref H.size :: r.map (z_gv (z_ad base τ χ sp))))
  have hgo2 : W p l e R s m args below meth c H1 locs (cells + 1) (slots + x) Q (F0 m (pc + 2) ls (.ref (z_ad base H.size χ sp 300000) :: r.map (z_gv (z_ad base H.size χ sp)))) := hgo
  rw [hq, hst] at hgo2
  exact hgo2
end ZNew
