/-! ===== a block, a run, a method: contracts out of runs of the machine of numbers ===== -/
/-! (z_ofW, z_ofWH: the kit's vx_ofW, vx_ofWH for a method that no native row stands for) -/
theorem z_ofW {l : Launch} {y : MethodName} {ws ws' : List Cond} {rm : Room} {Pc : Array Value → State → Prop} {Qc : Array Value → State → Outcome → State → Prop} {XC : String → State → State → Prop} {mc ms : Nat} {free : Addr → Prop} {cc : ByteArray} {maxL : Nat} {ret : Option FieldType}
    (hy : plainFor y = true) (hw : ws = Cond.code y cc maxL ret :: ws')
    (body : ∀ p e s m args below meth c s₁, BodyLoose p l y (headSpec ws rm) cc maxL ret e s m args below meth c s₁ → c.maxLocals = maxL → (∀ x ∈ c.exceptionTable.toList, False) → Pc args s →
      W p l e (headSpec ws rm).room s m args below meth c s.heap [] 0 0 (vx_MQ below Qc XC args s mc ms free) (entryFrame m args maxL)) : vx_Met l y ws rm Pc Qc XC mc ms free := by
  refine MetFree.of_bodySF (code := cc) (maxLocals := maxL) (ret := ret) hy ?_ ?_
  · intro args s m h hn
    obtain ⟨meth, c, h1, h2, h3, h4, h5, h6, -, -⟩ := Cond.code_spec hn (atoms_spec (ws := ws) h _ (by rw [hw]; exact List.mem_cons_self))
    exact ⟨meth, c, h1, h2, h3, h4, h5, h6⟩
  · intro p e s m args below meth c s₁ B hml hP _
    have hh0 : s₁.heap = s.heap := by rw [B.state]; rfl
    have ht : ∀ x ∈ c.exceptionTable.toList, False := by
      obtain ⟨meth9, c9, h1, h2, -, -, -, -, h7, -⟩ := Cond.code_spec B.named (atoms_spec (ws := ws) B.pre _ (by rw [hw]; exact List.mem_cons_self))
      cases Option.some.inj (h1.symm.trans B.method)
      cases Option.some.inj (h2.symm.trans (Stand.of_body B).code)
      intro x hx
      rw [Array.isEmpty_iff.mp h7] at hx
      cases hx
    obtain ⟨t, a1, o, b1, b2, b3⟩ := body p e s m args below meth c s₁ B hml ht hP s₁ hh0 (Stand.of_body B)
    exact ⟨t, o, a1, b1, b2, b3⟩
theorem z_ofWH {l : Launch} {y : MethodName} {ws ws' : List Cond} {rm : Room} {Pc : Array Value → State → Prop} {Qc : Array Value → State → Outcome → State → Prop} {XC : String → State → State → Prop} {mc ms : Nat} {free : Addr → Prop} {cc : ByteArray} {maxL : Nat} {ret : Option FieldType} {hh : List (Nat × Nat × Nat × Nat)}
    (hy : plainFor y = true) (hw : ws = Cond.codeWith y cc maxL ret hh :: ws')
    (body : ∀ p e s m args below meth c s₁, BodyLoose p l y (headSpec ws rm) cc maxL ret e s m args below meth c s₁ → c.maxLocals = maxL → Pc args s →
      W p l e (headSpec ws rm).room s m args below meth c s.heap [] 0 0 (vx_MQ below Qc XC args s mc ms free) (entryFrame m args maxL)) : vx_Met l y ws rm Pc Qc XC mc ms free := by
  refine MetFree.of_bodySF (code := cc) (maxLocals := maxL) (ret := ret) hy ?_ ?_
  · intro args s m h hn
    obtain ⟨m9, meth, c, hn9, h1, h2, h3, h4, -, h5, h6, -⟩ := Cond.codeWith_spec (atoms_spec (ws := ws) h _ (by rw [hw]; exact List.mem_cons_self))
    cases hn.symm.trans hn9
    exact ⟨meth, c, h1, h2, h3, h4, h5, h6⟩
  · intro p e s m args below meth c s₁ B hml hP _
    have hh0 : s₁.heap = s.heap := by rw [B.state]; rfl
    obtain ⟨t, a1, o, b1, b2, b3⟩ := body p e s m args below meth c s₁ B hml hP s₁ hh0 (Stand.of_body B)
    exact ⟨t, o, a1, b1, b2, b3⟩
/-- all that is asked of a method's text -/
def z_gm (mi : Nat → z_Mi) (mt : Nat → z_Md) (j : Nat) : Prop :=
  plainFor (mi j).1 = true ∧ (mt j).2.2.2 = (mi j).2.2.1 ∧
  ∀ t b, (mt j).2.2.1 t = some b → b.1.length = (mi j).2.2.1 ∧ z_gd mi (mi j).1.cls (mi j).2.1 (decide ((mi j).1.name = "<init>")) (mt j).1 (mi j).2.2.2.1 (mi j).2.2.2.2.2 (mt j).2.1 b.2.1 t b.2.2
theorem z_ent_spec (f : Nat → Nat) : ∀ (As : List z_Av) (n i : Nat), (As.map z_cat).sum ≤ n → (z_ent n As).length = n ∧ ∀ (j : Nat) (v : z_Av), (z_ent n As)[j]? = some (some v) → (i + j, z_gv f v) ∈ lv_args i (As.map (z_gv f)) := by
  intro As
  induction As with
  | nil =>
    intro n i h
    refine ⟨by simp [z_ent], fun j v hj => ?_⟩
    simp only [z_ent, List.getElem?_replicate] at hj
    split at hj <;> simp at hj
  | cons x r ih =>
    intro n i h
    have hx : z_cat x = 1 ∨ z_cat x = 2 := by rcases x with y | y | y <;> simp [z_cat]
    simp only [List.map_cons, List.sum_cons] at h
    rcases hx with hx | hx
    · have hne : ¬ z_cat x = 2 := by omega
      obtain ⟨g1, g2⟩ := ih (n - 1) (i + 1) (by omega)
      rw [z_ent, if_neg hne]
      refine ⟨by rw [List.length_cons, g1]; omega, fun j v hj => ?_⟩
      rw [List.map_cons, lv_args, if_neg (by rw [z_gv_cat]; exact hne)]
      cases j with
      | zero =>
        simp at hj
        subst hj
        exact List.mem_cons_self
      | succ j =>
        simp at hj
        have := g2 j v hj
        rw [show i + 1 + j = i + (j + 1) by omega] at this
        exact List.mem_cons_of_mem _ this
    · obtain ⟨g1, g2⟩ := ih (n - 2) (i + 2) (by omega)
      rw [z_ent, if_pos hx]
      refine ⟨by rw [List.length_cons, List.length_cons, g1]; omega, fun j v hj => ?_⟩
      rw [List.map_cons, lv_args, if_pos (by rw [z_gv_cat]; exact hx)]
      match j with
      | 0 =>
        simp at hj
        subst hj
        exact List.mem_cons_self
      | 1 => simp at hj
      | j + 2 =>
        simp at hj
        have := g2 j v hj
        rw [show i + 2 + j = i + (j + 2) by omega] at this
        exact List.mem_cons_of_mem _ this
theorem z_sl_len (f : Nat → Nat) (As : List z_Av) : (lg_sl (As.map (z_gv f))).length = (As.map z_cat).sum := by
  induction As with
  | nil => rfl
  | cons x r ih =>
    have hx : z_cat x = 1 ∨ z_cat x = 2 := by rcases x with y | y | y <;> simp [z_cat]
    rw [List.map_cons, List.map_cons, List.sum_cons, ← ih]
    unfold lg_sl
    rw [List.flatMap_cons, List.length_append]
    congr 1
    rcases hx with hx | hx
    · rw [if_neg (by rw [z_gv_cat]; omega), hx]; rfl
    · rw [if_pos (by rw [z_gv_cat]; exact hx), hx]; rfl
section ZRun
variable {p : Program} {l : Launch} {e : Env} {R : Room} {s : State} {m : MethodId} {args : Array Value} {below : List Frame} {meth : Method} {c : Code} {cc : ByteArray} {nL : Nat} {own : String} {base : Nat} {D : va_G} {sp : Nat → Nat} {M0 MF : z_M} {ph1 : Bool} {oF : z_Ot}
theorem z_blk_sound {mi : Nat → z_Mi} {ini rz : Bool} {ret : Option FieldType} {tb : List (Nat × Nat × Nat × Nat)} {hd : List (Nat × Nat)} {C : Bool → Nat → List z_Av → z_M → Bool → z_Ot → z_M → Prop} {J : Nat → z_P → z_L → List z_Av → z_M → Prop} {d : Nat}
    (cx : z_Cx p s m args meth c cc nL own) (hex : z_Ex base sp s s.heap) (hl : l.stackTraces = false) (hini : ini = true → meth.name = "<init>") (hret : meth.sig.returnType = ret) (htb : c.exceptionTable.toList = tableOf tb)
    (hRf : d + 9 ≤ R.frames) (hRl : 40 * d + 160 ≤ R.locals) (hRc : z_n MF ≤ R.cells + z_n M0) (hRs : z_s MF ≤ R.slots + z_s M0)
    (hC : ∀ ph j As M ph1 o M1, C ph j As M ph1 o M1 → (z_n M ≤ z_n M1 ∧ z_s M ≤ z_s M1) ∧ z_Ct l base D sp (mi j) d ph As M ph1 o M1)
    (hleJ : ∀ t P L S M, J t P L S M → z_n M ≤ z_n MF ∧ z_s M ≤ z_s MF)
    (hJ : ∀ t P L S M, P.2 ≤ 1000000 → J t P L S M → z_Wm p l e R s m args below meth c (vx_MQ below (z_Qc base D ph1 oF MF) (z_XC base D ph1 oF MF) args s (z_n MF - z_n M0) (z_s MF - z_s M0) (fun q => base ≤ q)) base D sp nL M0 t P L S M) :
    ∀ (is : List z_In) (pc nx : Nat) (P : z_P) (L : z_L) (S : List z_Av) (M : z_M), z_gd mi own cc ini rz ret tb hd is pc nx → P.2 ≤ 1000000 → z_blk sp rz hd C J (fun ph' o' M' => ph' = ph1 ∧ o' = oF ∧ M' = MF) is nx P L S M →
      z_Wm p l e R s m args below meth c (vx_MQ below (z_Qc base D ph1 oF MF) (z_XC base D ph1 oF MF) args s (z_n MF - z_n M0) (z_s MF - z_s M0) (fun q => base ≤ q)) base D sp nL M0 pc P L S M := by
  intro is
  induction is with
  | nil =>
    intro pc nx P L S M hg hP h
    have hpc : pc = nx := hg
    subst hpc
    exact hJ _ _ _ _ _ hP h
  | cons i is ih =>
    intro pc nx P L S M hg hP h
    obtain ⟨rfl, hdc, hlk, hrest⟩ := hg
    exact z_one_sound cx hex hl hini hret htb hRf hRl hRc hRs hC hdc hlk hP (fun P L S M h => z_blk_le (fun ph j As M ph1 o M1 h => (hC ph j As M ph1 o M1 h).1) hleJ (fun ph o M h => by rw [h.2.2]; exact ⟨Nat.le_refl _, Nat.le_refl _⟩) h) hleJ h (fun P L S M hP h => ih _ _ P L S M hrest hP h) hJ
theorem z_run_sound {mi : Nat → z_Mi} {mt : Nat → z_Md} {j d : Nat} {C : Bool → Nat → List z_Av → z_M → Bool → z_Ot → z_M → Prop} (hg : z_gm mi mt j)
    (cx : z_Cx p s m args meth c (mi j).2.1 (mi j).2.2.1 (mi j).1.cls) (hex : z_Ex base sp s s.heap) (hl : l.stackTraces = false) (hini : decide ((mi j).1.name = "<init>") = true → meth.name = "<init>") (hret : meth.sig.returnType = (mi j).2.2.2.1) (htb : c.exceptionTable.toList = tableOf (mi j).2.2.2.2.2)
    (hRf : d + 9 ≤ R.frames) (hRl : 40 * d + 160 ≤ R.locals) (hRc : z_n MF ≤ R.cells + z_n M0) (hRs : z_s MF ≤ R.slots + z_s M0)
    (hC : ∀ ph j As M ph1 o M1, C ph j As M ph1 o M1 → (z_n M ≤ z_n M1 ∧ z_s M ≤ z_s M1) ∧ z_Ct l base D sp (mi j) d ph As M ph1 o M1) :
    ∀ (n t : Nat) (P : z_P) (L : z_L) (S : List z_Av) (M : z_M), P.2 ≤ 1000000 → z_run sp (mt j).1 (mt j).2.1 C (mt j).2.2.1 (fun ph' o' M' => ph' = ph1 ∧ o' = oF ∧ M' = MF) n t P L S M →
      z_Wm p l e R s m args below meth c (vx_MQ below (z_Qc base D ph1 oF MF) (z_XC base D ph1 oF MF) args s (z_n MF - z_n M0) (z_s MF - z_s M0) (fun q => base ≤ q)) base D sp (mi j).2.2.1 M0 t P L S M := by
  intro n
  induction n with
  | zero => intro t P L S M _ h; exact h.elim
  | succ n ih =>
    intro t P L S M hP h
    obtain ⟨b, P', hb, hP', hblk⟩ := h
    have hP2 : P'.2 ≤ 1000000 := by
      rcases hP' with rfl | ⟨rfl, -⟩
      · exact hP
      · exact Nat.zero_le _
    obtain ⟨hlen, hgd⟩ := hg.2.2 t b hb
    have hw := z_blk_sound (nL := (mi j).2.2.1) (own := (mi j).1.cls) cx hex hl hini hret htb hRf hRl hRc hRs hC (fun t P L S M h => z_run_le (fun ph j As M ph1 o M1 h => (hC ph j As M ph1 o M1 h).1) (fun ph o M h => by rw [h.2.2]; exact ⟨Nat.le_refl _, Nat.le_refl _⟩) n t P L S M h) (fun t P L S M hP h => ih t P L S M hP h) b.2.1 t b.2.2 P' (z_msk b.1 L) S M hgd hP2 hblk
    intro τ χ ls H locs cells slots h1 h2 h3 h4 h5
    refine hw τ χ ls H locs cells slots (z_has_msk b.1 hlen h1) ?_ h3 h4 h5
    rcases hP' with rfl | ⟨rfl, hn⟩
    · exact h2
    · exact z_Pic_ph h2 (Or.inr ⟨rfl, hn⟩)
/-- a method whose text is as asked, by one run -/
theorem z_meth_sound {mi : Nat → z_Mi} {mt : Nat → z_Md} {j d : Nat} {C : Bool → Nat → List z_Av → z_M → Bool → z_Ot → z_M → Prop} (hg : z_gm mi mt j) (hl : l.stackTraces = false)
    (hC : ∀ ph j As M ph1 o M1, C ph j As M ph1 o M1 → (z_n M ≤ z_n M1 ∧ z_s M ≤ z_s M1) ∧ z_Ct l base D sp (mi j) d ph As M ph1 o M1)
    {ph : Bool} {As : List z_Av} {M M1 : z_M} {o : z_Ot} (hmono : z_n M ≤ z_n M1 ∧ z_s M ≤ z_s M1) (hA : (As.map z_cat).sum ≤ (mt j).2.2.2) {n : Nat}
    (h : z_run sp (mt j).1 (mt j).2.1 C (mt j).2.2.1 (fun ph' o' M' => ph' = ph1 ∧ o' = o ∧ M' = M1) n 0 (ph, 0) (z_ent (mt j).2.2.2 As) [] M) : z_Ct l base D sp (mi j) (d + 1) ph As M ph1 o M1 := by
  intro τ χ
  have hbody : ∀ (p : Program) (e : Env) (s : State) (m : MethodId) (args : Array Value) (below : List Frame) (meth : Method) (c : Code) (s₁ : State), BodyLoose p l (mi j).1 (headSpec (z_cw (mi j) :: z_W0) { frames := d + 1 + 8, cells := z_n M1 - z_n M, slots := z_s M1 - z_s M, locals := 40 * (d + 1) + 120 }) (mi j).2.1 (mi j).2.2.1 (mi j).2.2.2.1 e s m args below meth c s₁ → c.maxLocals = (mi j).2.2.1 → c.exceptionTable.toList = tableOf (mi j).2.2.2.2.2 →
      va_Pc (As.map (z_gv (z_ad base τ χ sp))) (fun U => z_Pic base D τ (ph, 0) M U U.heap ∧ z_Ex base sp U U.heap) args s →
      W p l e (headSpec (z_cw (mi j) :: z_W0) { frames := d + 1 + 8, cells := z_n M1 - z_n M, slots := z_s M1 - z_s M, locals := 40 * (d + 1) + 120 }).room s m args below meth c s.heap [] 0 0 (vx_MQ below (z_Qc base D ph1 o M1) (z_XC base D ph1 o M1) args s (z_n M1 - z_n M) (z_s M1 - z_s M) (fun q => base ≤ q)) (entryFrame m args (mi j).2.2.1) := by
    intro p e s m args below meth c s₁ B hml htb hv
    obtain ⟨rfl, hP, hEx⟩ := hv
    have hts := atoms_spec (ws := z_cw (mi j) :: z_W0) B.pre
    have hown : s.vm.findClass (mi j).1.cls = some m.cls := findClass_of_methodNamed B.named
    have cx : z_Cx p s m (As.map (z_gv (z_ad base τ χ sp))).toArray meth c (mi j).2.1 (mi j).2.2.1 (mi j).1.cls := ⟨B.exec, B.bytes, hml, hown, fun w hw => hts w (List.mem_cons_of_mem _ hw), B.notSynchronized⟩
    have hini : decide ((mi j).1.name = "<init>") = true → meth.name = "<init>" := fun q => by
      have := (name_of_methodNamed B.named B.method).1
      rw [this]
      exact of_decide_eq_true q
    have hrs := z_run_sound (R := (headSpec (z_cw (mi j) :: z_W0) { frames := d + 1 + 8, cells := z_n M1 - z_n M, slots := z_s M1 - z_s M, locals := 40 * (d + 1) + 120 }).room) (M0 := M) (e := e) (below := below) hg cx hEx hl hini B.returns htb (show d + 9 ≤ d + 1 + 8 by omega) (show 40 * d + 160 ≤ 40 * (d + 1) + 120 by omega) (show z_n M1 ≤ z_n M1 - z_n M + z_n M by omega) (show z_s M1 ≤ z_s M1 - z_s M + z_s M by omega) hC n 0 (ph, 0) _ [] M (Nat.zero_le _) h
    have hA' : (As.map z_cat).sum ≤ (mi j).2.2.1 := by rw [← hg.2.1]; exact hA
    have hl9 := lv_entry (As.map (z_gv (z_ad base τ χ sp))) (n := (mi j).2.2.1) (by rw [z_sl_len]; exact hA')
    rw [lg_entry_eq]
    generalize (lg_sl (As.map (z_gv (z_ad base τ χ sp))) ++ List.replicate ((mi j).2.2.1 - (lg_sl (As.map (z_gv (z_ad base τ χ sp)))).length) Slot.unset).toArray = ls at hl9 ⊢
    rw [hg.2.1] at hrs
    obtain ⟨g1, g2⟩ := z_ent_spec (z_ad base τ χ sp) As (mi j).2.2.1 0 hA'
    refine hrs τ χ ls s.heap [] 0 0 (z_has_weak g1 hl9 fun k v hk => ?_) hP va_S.rf (Nat.zero_add _) (Nat.zero_add _)
    have := g2 k v hk
    rw [Nat.zero_add] at this
    exact this
  by_cases ht : (mi j).2.2.2.2.2 = []
  · have hw : z_cw (mi j) = Jvm.Cond.code (mi j).1 (mi j).2.1 (mi j).2.2.1 (mi j).2.2.2.1 := by rw [z_cw, if_pos ht]
    refine z_ofW (cc := (mi j).2.1) (maxL := (mi j).2.2.1) (ret := (mi j).2.2.2.1) (ws' := z_W0) hg.1 (by rw [hw]) ?_
    intro p e s m args below meth c s₁ B hml hx hv
    refine hbody p e s m args below meth c s₁ B hml ?_ hv
    rw [ht]
    cases hq : c.exceptionTable.toList with
    | nil => rfl
    | cons x r => exact (hx x (by rw [hq]; exact List.mem_cons_self)).elim
  · have hw : z_cw (mi j) = Jvm.Cond.codeWith (mi j).1 (mi j).2.1 (mi j).2.2.1 (mi j).2.2.2.1 (mi j).2.2.2.2.2 := by rw [z_cw, if_neg ht]
    refine z_ofWH (cc := (mi j).2.1) (maxL := (mi j).2.2.1) (ret := (mi j).2.2.2.1) (hh := (mi j).2.2.2.2.2) (ws' := z_W0) hg.1 (by rw [hw]) ?_
    intro p e s m args below meth c s₁ B hml hv
    refine hbody p e s m args below meth c s₁ B hml ?_ hv
    exact vx_table (x := (mi j).1) B (args := args) (atoms_spec (ws := z_cw (mi j) :: z_W0) B.pre _ (by rw [hw]; exact List.mem_cons_self))
/-- a run of the machine of numbers is a contract of the machine -/
theorem z_Run_sound {mi : Nat → z_Mi} {mt : Nat → z_Md} (hg : ∀ j, j < 900 → z_gm mi mt j) (hl : l.stackTraces = false) (hprim : ∀ j As o, z_Prim j As o → ∀ d ph M, z_Ct l base D sp (mi j) (d + 1) ph As M ph o M) :
    ∀ (d : Nat) (ph : Bool) (j : Nat) (As : List z_Av) (M : z_M) (ph1 : Bool) (o : z_Ot) (M1 : z_M), z_Run sp mt d ph j As M ph1 o M1 → z_Ct l base D sp (mi j) d ph As M ph1 o M1 := by
  intro d
  induction d with
  | zero => intro ph j As M ph1 o M1 h; exact h.elim
  | succ d ih =>
    intro ph j As M ph1 o M1 h
    have hle := z_Run_le sp mt (d + 1) ph j As M ph1 o M1 h
    rcases h with ⟨hp, rfl, rfl⟩ | ⟨hj, hA, n, h⟩
    · exact hprim j As o hp d ph1 M1
    · exact z_meth_sound (hg j hj) hl (fun ph j As M ph1 o M1 h => ⟨z_Run_le sp mt d ph j As M ph1 o M1 h, ih ph j As M ph1 o M1 h⟩) hle hA h
end ZRun
