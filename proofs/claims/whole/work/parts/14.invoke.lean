/-! ===== calls ===== -/
section ZCall
variable {p : Program} {l : Launch} {e : Env} {R : Room} {s : State} {m : MethodId} {args : Array Value} {below : List Frame} {meth : Method} {c : Code} {Q : State → Prop} {cc : ByteArray} {nL : Nat} {own : String} {base : Nat} {D : va_G} {sp : Nat → Nat} {M0 : z_M}
variable {pc : Nat} {P : z_P} {L : z_L} {As r : List z_Av} {M M1 : z_M} {ph ph1 : Bool} {o1 : z_Ot} {mi : z_Mi} {d idx : Nat}
theorem z_fb {av : List Value} {τ : Nat} : FrameBlind (va_Pc av (fun U => z_Pic base D τ (ph, 0) M U U.heap ∧ z_Ex base sp U U.heap)) := fun a U g mk q => ⟨q.1, z_Pic_moved (u := U) (U := U.calling g mk a) (Vm.Alike.refl _) q.2.1, z_Ex_same (u := U) (U := U.calling g mk a) rfl q.2.2⟩
/-- what every call asks of the tables and of the room -/
def z_Cm (mi : z_Mi) (n : Nat) : Prop := z_cw mi ∈ z_W0 ∧ Jvm.Cond.initialized mi.1.cls ∈ z_W0 ∧ (mi.1.cls ≠ "java/lang/invoke/MethodHandle" ∧ mi.1.cls ≠ "java/lang/invoke/VarHandle" ∧ (parseMethodDescriptor mi.1.desc).map (fun d => d.parameters.length) = some n) ∧ mi.2.2.1 ≤ 21
theorem z_pre {τ χ : Nat} {H : Heap} {locs : List Loc} (hex : z_Ex base sp s s.heap) (h2 : z_Pic base D τ P M s H) (h3 : va_S (fun q => base ≤ q) s.heap H locs) (hph : ph = P.1 ∨ (ph = true ∧ z_KL.length ≤ z_n M)) {A9 : List z_Av} :
    ∀ U : State, U.heap = H → s.WarmedH U.vm → va_Pc (A9.map (z_gv (z_ad base τ χ sp))) (fun U => z_Pic base D τ (ph, 0) M U U.heap ∧ z_Ex base sp U U.heap) (A9.map (z_gv (z_ad base τ χ sp))).toArray U := fun U hU hW =>
  ⟨rfl, by rw [hU]; exact z_Pic_moved hW.alike (z_Pic_ph h2 hph), by rw [hU]; exact z_Ex_to hW h3.1 (fun q h1 h2 => h3.2.1 q h1 h2) hex⟩
theorem z_rev (f : z_Av → Value) (As : List z_Av) : (As.reverse.map f).reverse = As.map f := by rw [List.map_reverse, List.reverse_reverse]
theorem z_s_callS (cx : z_Cx p s m args meth c cc nL own) (hex : z_Ex base sp s s.heap) (hd : decode cc pc = .ok (.invokestatic idx, 3)) (hcm : z_Cm mi As.length) (htb : mi.2.2.2.2.2 = []) (hl : Jvm.Cond.methodLink own idx mi.1 ∈ z_W0) (hs : Jvm.Cond.static mi.1 ∈ z_W0)
    (hct : z_Ct l base D sp mi d ph As.reverse M ph1 o1 M1) (hph : ph = P.1 ∨ (ph = true ∧ z_KL.length ≤ z_n M)) (hcat : (r.map z_cat).sum ≤ 8) (hRf : d + 9 ≤ R.frames) (hRl : 40 * d + 160 ≤ R.locals) (hmono : z_n M ≤ z_n M1 ∧ z_s M ≤ z_s M1) (hRc : z_n M1 ≤ R.cells + z_n M0) (hRs : z_s M1 ≤ R.slots + z_s M0)
    (hk : ∀ v, o1 = .inl v → z_Wm p l e R s m args below meth c Q base D sp nL M0 (pc + 3) (ph1, 0) L (v.toList ++ r) M1) (hx : ∀ k, o1 = .inr k → z_Xm p l e R s m args below meth c Q base D sp nL M0 pc k (ph1, 0) L M1) :
    z_Wm p l e R s m args below meth c Q base D sp nL M0 pc P L (As ++ r) M := fun τ χ ls H locs cells slots h1 h2 h3 h4 h5 => by
  obtain ⟨g1, g2, g3, g4⟩ := hcm
  have hw : z_cw mi = Jvm.Cond.code mi.1 mi.2.1 mi.2.2.1 mi.2.2.2.1 := by rw [z_cw, if_pos htb]
  refine z_behind (a := (As.reverse.map (z_gv (z_ad base τ χ sp))).toArray) ?_ h1 h3 h4 h5 hmono hk hx
  refine vx_runS (n := As.length) (As := As.reverse.map (z_gv (z_ad base τ χ sp))) ⟨cx.1, cx.2.1, cx.2.2.1, cx.2.2.2.1, cx.2.2.2.2.1⟩ (hct τ χ) (va_cwS As.length cx.2.2.2.2.1 (z_good fun w hw2 => ?_) (by rw [hw]) rfl rfl g3 ⟨hRf, by show 8 + (mi.2.2.1 + 11) + (40 * d + 120) ≤ _; omega⟩) ⟨z_fb, z_pre hex h2 h3 hph⟩ rfl (by simp) h1.2.1 ?_ (lv_room (by rw [z_gv_cats]; exact hcat)) hd ⟨by omega, by omega⟩
  · rcases List.mem_append.mp (show w ∈ ([.methodLink own idx mi.1, .static mi.1, .initialized mi.1.cls] : List Jvm.Cond) ++ (z_cw mi :: z_W0) from hw2) with h | h
    · simp only [List.mem_cons, List.not_mem_nil, or_false] at h
      rcases h with rfl | rfl | rfl
      · exact hl
      · exact hs
      · exact g2
    · rcases List.mem_cons.mp h with rfl | h
      · exact g1
      · exact h
  · show (As ++ r).map _ = _
    rw [z_rev, List.map_append]
theorem z_s_callSX (cx : z_Cx p s m args meth c cc nL own) (hex : z_Ex base sp s s.heap) (hd : decode cc pc = .ok (.invokestatic idx, 3)) (hcm : z_Cm mi As.length) (htb : ¬ mi.2.2.2.2.2 = []) (hl : Jvm.Cond.methodLink own idx mi.1 ∈ z_W0) (hs : Jvm.Cond.static mi.1 ∈ z_W0)
    (hct : z_Ct l base D sp mi d ph As.reverse M ph1 o1 M1) (hph : ph = P.1 ∨ (ph = true ∧ z_KL.length ≤ z_n M)) (hcat : (r.map z_cat).sum ≤ 8) (hRf : d + 9 ≤ R.frames) (hRl : 40 * d + 160 ≤ R.locals) (hmono : z_n M ≤ z_n M1 ∧ z_s M ≤ z_s M1) (hRc : z_n M1 ≤ R.cells + z_n M0) (hRs : z_s M1 ≤ R.slots + z_s M0)
    (hk : ∀ v, o1 = .inl v → z_Wm p l e R s m args below meth c Q base D sp nL M0 (pc + 3) (ph1, 0) L (v.toList ++ r) M1) (hx : ∀ k, o1 = .inr k → z_Xm p l e R s m args below meth c Q base D sp nL M0 pc k (ph1, 0) L M1) :
    z_Wm p l e R s m args below meth c Q base D sp nL M0 pc P L (As ++ r) M := fun τ χ ls H locs cells slots h1 h2 h3 h4 h5 => by
  obtain ⟨g1, g2, g3, g4⟩ := hcm
  have hw : z_cw mi = Jvm.Cond.codeWith mi.1 mi.2.1 mi.2.2.1 mi.2.2.2.1 mi.2.2.2.2.2 := by rw [z_cw, if_neg htb]
  refine z_behind (a := (As.reverse.map (z_gv (z_ad base τ χ sp))).toArray) ?_ h1 h3 h4 h5 hmono hk hx
  refine vx_runSX (n := As.length) (As := As.reverse.map (z_gv (z_ad base τ χ sp))) ⟨cx.1, cx.2.1, cx.2.2.1, cx.2.2.2.1, cx.2.2.2.2.1⟩ (hct τ χ) (vx_cwSW As.length cx.2.2.2.2.1 (z_good fun w hw2 => ?_) (by rw [hw]) rfl rfl g3 ⟨hRf, by show 8 + (mi.2.2.1 + 11) + (40 * d + 120) ≤ _; omega⟩) ⟨z_fb, z_pre hex h2 h3 hph⟩ rfl (by simp) h1.2.1 ?_ (lv_room (by rw [z_gv_cats]; exact hcat)) hd ⟨by omega, by omega⟩
  · rcases List.mem_append.mp (show w ∈ ([.methodLink own idx mi.1, .static mi.1, .initialized mi.1.cls] : List Jvm.Cond) ++ (z_cw mi :: z_W0) from hw2) with h | h
    · simp only [List.mem_cons, List.not_mem_nil, or_false] at h
      rcases h with rfl | rfl | rfl
      · exact hl
      · exact hs
      · exact g2
    · rcases List.mem_cons.mp h with rfl | h
      · exact g1
      · exact h
  · show (As ++ r).map _ = _
    rw [z_rev, List.map_append]
theorem z_s_callV (cx : z_Cx p s m args meth c cc nL own) (hex : z_Ex base sp s s.heap) (hd : decode cc pc = .ok (.invokevirtual idx, 3)) {a : Nat} {v : List z_Av} (hA : As.reverse = z_r (some a) :: v) (hcm : z_Cm mi v.length) (htb : mi.2.2.2.2.2 = []) (hl : Jvm.Cond.methodLink own idx mi.1 ∈ z_W0) (hi : Jvm.Cond.instanceMethod mi.1 ∈ z_W0) (hs : Jvm.Cond.selects mi.1.cls mi.1 mi.1 ∈ z_W0)
    (hrec : ∀ (τ χ : Nat) (H : Heap), z_Pic base D τ P M s H → z_Ex base sp s H → ∃ cellB : Cell, H[z_ad base τ χ sp a]? = some cellB ∧ cellB.vm.isStatics = false ∧ s.vm.findClass mi.1.cls = some cellB.cls)
    (hct : z_Ct l base D sp mi d ph As.reverse M ph1 o1 M1) (hph : ph = P.1 ∨ (ph = true ∧ z_KL.length ≤ z_n M)) (hcat : (r.map z_cat).sum ≤ 8) (hRf : d + 9 ≤ R.frames) (hRl : 40 * d + 160 ≤ R.locals) (hmono : z_n M ≤ z_n M1 ∧ z_s M ≤ z_s M1) (hRc : z_n M1 ≤ R.cells + z_n M0) (hRs : z_s M1 ≤ R.slots + z_s M0)
    (hk : ∀ v, o1 = .inl v → z_Wm p l e R s m args below meth c Q base D sp nL M0 (pc + 3) (ph1, 0) L (v.toList ++ r) M1) (hx : ∀ k, o1 = .inr k → z_Xm p l e R s m args below meth c Q base D sp nL M0 pc k (ph1, 0) L M1) :
    z_Wm p l e R s m args below meth c Q base D sp nL M0 pc P L (As ++ r) M := fun τ χ ls H locs cells slots h1 h2 h3 h4 h5 => by
  obtain ⟨g1, g2, g3, g4⟩ := hcm
  have hw : z_cw mi = Jvm.Cond.code mi.1 mi.2.1 mi.2.2.1 mi.2.2.2.1 := by rw [z_cw, if_pos htb]
  have hct2 := hct τ χ
  have hpre := z_pre (χ := χ) (A9 := As.reverse) hex h2 h3 hph
  rw [hA] at hct2 hpre
  refine z_behind (a := ((z_r (some a) :: v).map (z_gv (z_ad base τ χ sp))).toArray) ?_ h1 h3 h4 h5 hmono hk hx
  refine vx_runV (n := v.length) (b := z_ad base τ χ sp a) (As := v.map (z_gv (z_ad base τ χ sp))) ⟨cx.1, cx.2.1, cx.2.2.1, cx.2.2.2.1, cx.2.2.2.2.1⟩ hct2 (cwV v.length cx.2.2.2.2.1 (z_good fun w hw2 => ?_) (by rw [hw]) rfl rfl ⟨rfl, g3⟩ ⟨hRf, by show 8 + (mi.2.2.1 + 11) + (40 * d + 120) ≤ _; omega⟩) ⟨z_fb, ?_, hpre⟩ rfl (by simp) h1.2.1 ?_ (lv_room (by rw [z_gv_cats]; exact hcat)) hd ⟨by omega, by omega⟩
  · rcases List.mem_append.mp (show w ∈ ([.methodLink own idx mi.1, .instanceMethod mi.1, .selects mi.1.cls mi.1 mi.1, .initialized mi.1.cls] : List Jvm.Cond) ++ (z_cw mi :: z_W0) from hw2) with h | h
    · simp only [List.mem_cons, List.not_mem_nil, or_false] at h
      rcases h with rfl | rfl | rfl | rfl
      · exact hl
      · exact hi
      · exact hs
      · exact g2
    · rcases List.mem_cons.mp h with rfl | h
      · exact g1
      · exact h
  · exact hrec τ χ H h2 (z_Ex_to (State.WarmedH.refl s) h3.1 (fun q h1 h2 => h3.2.1 q h1 h2) hex)
  · show (As ++ r).map _ = _
    have hA2 : As = (z_r (some a) :: v).reverse := by rw [← hA, List.reverse_reverse]
    rw [hA2, List.map_append, List.map_reverse]
    show ((z_r (some a) :: v).map _).reverse ++ _ = _
    rw [List.map_cons, List.reverse_cons, List.append_assoc]
    rfl
/-- a constructor's contract is one that never throws -/
theorem z_Met_of {y : MethodName} {ws : List Jvm.Cond} {rm : Room} {Pc : Array Value → State → Prop} {ph1 : Bool} {o1 : z_Ot} {M1 : z_M} {mc ms : Nat} {A : Addr → Prop} {v1 : Option z_Av} (hv : o1 = .inl v1) (h : vx_Met l y ws rm Pc (z_Qc base D ph1 o1 M1) (z_XC base D ph1 o1 M1) mc ms A) : Met l y ws rm Pc (z_Qc base D ph1 o1 M1) mc ms A := by
  intro p e ha hc1 hc2 s m args below hf hs hP hK
  obtain ⟨n, o, a1, a2, a3, hq⟩ := h p e ha hc1 hc2 s m args below hf hs hP hK
  refine ⟨n, o, a1, a2, a3, ?_⟩
  rcases hq with h | ⟨q, -, E, ce, L9, ⟨⟨k, hk, -⟩, -⟩, -⟩
  · exact h
  · rw [hv] at hk
    cases hk
end ZCall
