/-! ===== String.length and String.charAt of the five words, and what they call ===== -/
def z_prR (f lo : Nat) : Room := { frames := f, cells := 0, slots := 0, locals := lo }
def z_PP (base : Nat) (sp adV : Nat → Nat) (H0 : Heap) (U : State) : Prop := U.heap = H0 ∧ z_StrQ base sp adV U U.heap
abbrev z_py (c n d : String) : MethodName := ⟨c, n, d⟩
abbrev z_pC (l : Launch) (y : MethodName) (cc : ByteArray) (ml : Nat) (ret : Option FieldType) (R : Room) (base : Nat) (sp adV : Nat → Nat) (H0 : Heap) (av : List Value) (Qc : Array Value → State → Outcome → State → Prop) : Prop :=
  vx_Met l y (.code y cc ml ret :: z_W0) R (va_Pc av (z_PP base sp adV H0)) Qc (fun _ _ _ => False) 0 0 (fun q => base ≤ q)
abbrev z_pI (base : Nat) (H0 : Heap) (v : Int32) : Array Value → State → Outcome → State → Prop := va_Qi (fun r (_ : Unit) => r = v) (fun _ t => t.heap = H0) (fun q => base ≤ q)
abbrev z_pV (base : Nat) (H0 : Heap) : Array Value → State → Outcome → State → Prop := va_Qv (fun (_ : Unit) => True) (fun _ t => t.heap = H0) (fun q => base ≤ q)
theorem z_PPb {base : Nat} {sp adV : Nat → Nat} {H0 : Heap} {av : List Value} : FrameBlind (va_Pc av (z_PP base sp adV H0)) := fun a U g mk q => ⟨q.1, q.2.1, z_StrQ.moved (u := U) (U := U.calling g mk a) (Vm.Alike.refl _) q.2.2⟩
theorem z_pMet {l : Launch} {y : MethodName} {ws : List Jvm.Cond} {rm : Room} {Pc : Array Value → State → Prop} {Qc : Array Value → State → Outcome → State → Prop} {mc ms : Nat} {A : Addr → Prop} (h : vx_Met l y ws rm Pc Qc (fun _ _ _ => False) mc ms A) : Met l y ws rm Pc Qc mc ms A := by
  intro p e ha hc1 hc2 s m args below hf hs hP hK
  obtain ⟨n, o, a1, a2, a3, hq⟩ := h p e ha hc1 hc2 s m args below hf hs hP hK
  refine ⟨n, o, a1, a2, a3, ?_⟩
  rcases hq with h | ⟨q, -, E, ce, L9, ⟨hk, -⟩, -⟩
  exact h
section ZPrims
variable {l : Launch} {base : Nat} {sp adV : Nat → Nat} {H0 : Heap}
theorem z_p_coder {k : Nat} (hk : k < 5) : z_pC l (z_py "java/lang/String" "coder" "()B") prog_24_method_152_code 1 (some .byte) (z_prR 1 20) base sp adV H0 [.ref (sp (500000 + k))] (z_pI base H0 0) := by
  refine z_ofW (by decide) rfl ?_
  intro p e s m args below meth c s₁ B hml hx hv
  obtain ⟨rfl, hH, hQ⟩ := hv
  have hts := atoms_spec B.pre
  have hw : ∀ w ∈ z_W0, w.before #[Value.ref (sp (500000 + k))] s = true := fun w h => hts w (List.mem_cons_of_mem _ h)
  have hown : s.vm.findClass "java/lang/String" = some m.cls := findClass_of_methodNamed B.named
  have hl := lv_entry [Value.ref (sp (500000 + k))] (n := 1) (Nat.le_of_ble_eq_true rfl)
  rw [lg_entry_eq]
  generalize (lg_sl [Value.ref (sp (500000 + k))] ++ List.replicate (1 - (lg_sl [Value.ref (sp (500000 + k))]).length) Slot.unset).toArray = ls at hl ⊢
  refine va_gets B.exec B.bytes hQ.2.1 va_S.rf hown (hw _ (z_t4 134 rfl rfl)) (fun x h => h) (by decide +kernel) ?_
  refine lv_if_eq B.exec B.bytes (off := 10) (tgt := 13) (by decide +kernel) rfl (fun h => absurd h (by decide)) fun _ => ?_
  refine lv_aload_n (k := 0) B.exec B.bytes (by decide +kernel) rfl (lv_at hl 0 rfl) ?_
  refine vk_getf B.exec B.bytes (hQ.1.1 k hk).2.1 va_S.rf hown (hw _ (z_t8 232 rfl rfl)) (fun x h => h) (by decide +kernel) ?_
  refine lv_goto B.exec B.bytes (off := 4) (tgt := 14) (by decide +kernel) rfl ?_
  exact vx_ret (W.zret B.exec B.bytes B.returns (by decide) (fun t ht hW => ⟨⟨0, (), rfl, rfl, ht.trans hH⟩, va_S.F va_S.rf ht⟩) (fun _ h => absurd h List.not_mem_nil) (by decide +kernel) B.notSynchronized)
theorem z_p_isLatin1 {k : Nat} (hk : k < 5) : z_pC l (z_py "java/lang/String" "isLatin1" "()Z") prog_24_method_154_code 1 (some .boolean) (z_prR 1 20) base sp adV H0 [.ref (sp (500000 + k))] (z_pI base H0 1) := by
  refine z_ofW (by decide) rfl ?_
  intro p e s m args below meth c s₁ B hml hx hv
  obtain ⟨rfl, hH, hQ⟩ := hv
  have hts := atoms_spec B.pre
  have hw : ∀ w ∈ z_W0, w.before #[Value.ref (sp (500000 + k))] s = true := fun w h => hts w (List.mem_cons_of_mem _ h)
  have hown : s.vm.findClass "java/lang/String" = some m.cls := findClass_of_methodNamed B.named
  have hl := lv_entry [Value.ref (sp (500000 + k))] (n := 1) (Nat.le_of_ble_eq_true rfl)
  rw [lg_entry_eq]
  generalize (lg_sl [Value.ref (sp (500000 + k))] ++ List.replicate (1 - (lg_sl [Value.ref (sp (500000 + k))]).length) Slot.unset).toArray = ls at hl ⊢
  refine va_gets B.exec B.bytes hQ.2.1 va_S.rf hown (hw _ (z_t4 134 rfl rfl)) (fun x h => h) (by decide +kernel) ?_
  refine lv_if_eq B.exec B.bytes (off := 14) (tgt := 17) (by decide +kernel) rfl (fun h => absurd h (by decide)) fun _ => ?_
  refine lv_aload_n (k := 0) B.exec B.bytes (by decide +kernel) rfl (lv_at hl 0 rfl) ?_
  refine vk_getf B.exec B.bytes (hQ.1.1 k hk).2.1 va_S.rf hown (hw _ (z_t8 232 rfl rfl)) (fun x h => h) (by decide +kernel) ?_
  refine lv_if_ne B.exec B.bytes (off := 7) (tgt := 17) (by decide +kernel) rfl (fun h => absurd rfl h) fun _ => ?_
  refine lv_iconst B.exec B.bytes (n := 1) (v := 1) (by decide +kernel) rfl ?_
  refine lv_goto B.exec B.bytes (off := 4) (tgt := 18) (by decide +kernel) rfl ?_
  exact vx_ret (W.zret B.exec B.bytes B.returns (by decide) (fun t ht hW => ⟨⟨1, (), rfl, rfl, ht.trans hH⟩, va_S.F va_S.rf ht⟩) (fun _ h => absurd h List.not_mem_nil) (by decide +kernel) B.notSynchronized)
theorem z_p_check {i n : Int32} (h0 : ¬ i < 0) (h1 : i < n) {v : Value} (hv0 : v = .null ∨ ∃ t, v = .ref t) : z_pC l (z_py "jdk/internal/util/Preconditions" "checkIndex" "(IILjava/util/function/BiFunction;)I") prog_31_method_11_code 3 (some .int) (z_prR 1 20) base sp adV H0 [.int i, .int n, v] (z_pI base H0 i) := by
  refine z_ofW (by decide) rfl ?_
  intro p e s m args below meth c s₁ B hml hx hv
  obtain ⟨rfl, hH, hQ⟩ := hv
  have hlen : (lg_sl [Value.int i, .int n, v]).length ≤ 3 := by
    rcases hv0 with rfl | ⟨t, rfl⟩ <;> exact Nat.le_of_ble_eq_true rfl
  have hl := lv_entry [Value.int i, .int n, v] (n := 3) hlen
  have hl : lv_has ((lg_sl [Value.int i, .int n, v] ++ List.replicate (3 - (lg_sl [Value.int i, .int n, v]).length) Slot.unset).toArray) 3 [(0, .int i), (1, .int n), (2, v)] := by
    rcases hv0 with rfl | ⟨t, rfl⟩ <;> exact hl
  rw [lg_entry_eq]
  generalize (lg_sl [Value.int i, .int n, v] ++ List.replicate (3 - (lg_sl [Value.int i, .int n, v]).length) Slot.unset).toArray = ls at hl ⊢
  refine lv_iload_n (k := 0) B.exec B.bytes (by decide +kernel) rfl (lv_at hl 0 rfl) ?_
  refine lv_if_lt B.exec B.bytes (off := 8) (tgt := 9) (by decide +kernel) rfl (fun h => absurd h h0) fun _ => ?_
  refine lv_iload_n (k := 0) B.exec B.bytes (by decide +kernel) rfl (lv_at hl 0 rfl) ?_
  refine lv_iload_n (k := 1) B.exec B.bytes (by decide +kernel) rfl (lv_at hl 1 rfl) ?_
  refine lv_icmp_lt B.exec B.bytes (off := 10) (tgt := 16) (by decide +kernel) rfl (fun _ => ?_) (fun h => absurd h1 h)
  refine lv_iload_n (k := 0) B.exec B.bytes (by decide +kernel) rfl (lv_at hl 0 rfl) ?_
  exact vx_ret (W.iret B.exec B.bytes B.returns (fun t ht hW => ⟨⟨i, (), rfl, rfl, ht.trans hH⟩, va_S.F va_S.rf ht⟩) (fun _ h => absurd h List.not_mem_nil) (by decide +kernel) B.notSynchronized)
theorem z_p_checkS {i n : Int32} (h0 : ¬ i < 0) (h1 : i < n) : z_pC l (z_py "java/lang/String" "checkIndex" "(II)V") prog_24_method_155_code 2 none (z_prR 3 60) base sp adV H0 [.int i, .int n] (z_pV base H0) := by
  refine z_ofW (by decide) rfl ?_
  intro p e s m args below meth c s₁ B hml hx hv
  obtain ⟨rfl, hH, hQ⟩ := hv
  have hts := atoms_spec B.pre
  have hw : ∀ w ∈ z_W0, w.before #[Value.int i, .int n] s = true := fun w h => hts w (List.mem_cons_of_mem _ h)
  have hown : s.vm.findClass "java/lang/String" = some m.cls := findClass_of_methodNamed B.named
  have hl := lv_entry [Value.int i, .int n] (n := 2) (Nat.le_of_ble_eq_true rfl)
  rw [lg_entry_eq]
  generalize (lg_sl [Value.int i, .int n] ++ List.replicate (2 - (lg_sl [Value.int i, .int n]).length) Slot.unset).toArray = ls at hl ⊢
  refine lv_iload_n (k := 0) B.exec B.bytes (by decide +kernel) rfl (lv_at hl 0 rfl) ?_
  refine lv_iload_n (k := 1) B.exec B.bytes (by decide +kernel) rfl (lv_at hl 1 rfl) ?_
  have hZ : ∃ v : Value, (v = .null ∨ ∃ t, v = .ref t) ∧ va_Z "jdk/internal/util/Preconditions" "SIOOBE_FORMATTER" "Ljava/util/function/BiFunction;" v (fun q => base ≤ q) s s.heap := by
    rcases hQ.2.2 with h | ⟨t, h⟩
    · exact ⟨_, Or.inl rfl, h⟩
    · exact ⟨_, Or.inr ⟨t, rfl⟩, h⟩
  obtain ⟨v, hv0, hZ⟩ := hZ
  refine va_gets B.exec B.bytes hZ va_S.rf hown (hw _ (z_t4 150 rfl rfl)) (fun x h => h) (by decide +kernel) ?_
  have hcall := va_runS (rest := []) (g := F0 m 5 ls [v, .int n, .int i]) (H := s.heap) (locs := []) (cells := 0) (slots := 0) (e := e) (below := below) (meth := meth) (l := l) (R := (headSpec (Jvm.Cond.code (z_py "java/lang/String" "checkIndex" "(II)V") prog_24_method_155_code 2 none :: z_W0) (z_prR 3 60)).room) (n := 3) (index := 1059) (As := [.int i, .int n, v]) ⟨B.exec, B.bytes, hml, hown, hw⟩ (z_pMet (z_p_check (l := l) (base := base) (sp := sp) (adV := adV) (H0 := H0) h0 h1 hv0))
    (va_cwS 3 hw (z_good fun w hw2 => ?_) rfl rfl rfl ⟨by decide, by decide, by decide +kernel⟩ ⟨Nat.le_of_ble_eq_true rfl, Nat.le_of_ble_eq_true rfl⟩)
    ⟨z_PPb, fun U hU hW => ⟨rfl, by rw [hU]; exact hH, by rw [hU]; exact hQ.moved hW.alike⟩⟩ rfl rfl hl.1 rfl (Nat.le_of_ble_eq_true rfl) (show decode prog_24_method_155_code 5 = _ by decide +kernel) ⟨Nat.le_of_ble_eq_true rfl, Nat.le_of_ble_eq_true rfl⟩
  · refine va_calli (A0 := fun q => base ≤ q) (H0 := s.heap) hcall va_S.rf (fun _ _ h => h) (fun _ h => h) ?_
    intro r u t H1 locs1 h1 h2 h3 h4 h5 h6 h7
    refine lv_pop B.exec B.bytes (by decide +kernel) rfl ?_
    exact vx_ret (W.vret B.exec B.bytes B.returns (fun t9 ht hW => ⟨⟨(), rfl, trivial, (ht.trans h1.symm).trans h4⟩, va_S.F h7 ht⟩) h7.2.2 (by decide +kernel) B.notSynchronized)
  · rcases List.mem_append.mp (show w ∈ ([.methodLink "java/lang/String" 1059 (z_py "jdk/internal/util/Preconditions" "checkIndex" "(IILjava/util/function/BiFunction;)I"), .static (z_py "jdk/internal/util/Preconditions" "checkIndex" "(IILjava/util/function/BiFunction;)I"), .initialized "jdk/internal/util/Preconditions"] : List Jvm.Cond) ++ (_ :: z_W0) from hw2) with h | h
    · simp only [List.mem_cons, List.not_mem_nil, or_false] at h
      rcases h with rfl | rfl | rfl
      · exact z_t4 152 rfl rfl
      · exact z_t4 153 rfl rfl
      · exact z_t1 20 rfl rfl
    · rcases List.mem_cons.mp h with rfl | h
      · exact z_t4 154 rfl rfl
      · exact h
theorem z_p_small : ∀ n : Nat, n < 6 → (Int32.ofInt (n : Int)).toNatClampNeg = n ∧ ¬ Int32.ofInt (n : Int) < 0 := by decide
theorem z_p_len : ∀ k, k < 5 → (z_Txt.map List.length).getD k 0 ≤ 5 ∧ (z_Txt.map List.length).getD k 0 = (z_Txt.getD k []).length ∧ Int32.ofNat ((z_Txt.map List.length).getD k 0) >>> ((0 : Int32) &&& 31) = Int32.ofInt ((z_Txt.getD k []).length : Int) := by decide
theorem z_p_lt : ∀ k, k < 5 → ∀ n, n < 6 → n < (z_Txt.map List.length).getD k 0 → Int32.ofInt (n : Int) < Int32.ofNat ((z_Txt.map List.length).getD k 0) ∧ ((((z_Txt.map fun t => t.map Int32.ofInt).getD k []).getD n 0 &&& (255 : Int32)).toUInt32 % 65536).toInt32 = Int32.ofInt ((z_Txt.getD k []).getD n 0) ∧ narrow .char (.int (Int32.ofInt ((z_Txt.getD k []).getD n 0))) = .int (Int32.ofInt ((z_Txt.getD k []).getD n 0)) := by decide
theorem z_p_latin {k n : Nat} (hk : k < 5) (hn : n < (z_Txt.map List.length).getD k 0) : z_pC l (z_py "java/lang/StringLatin1" "charAt" "([BI)C") prog_25_method_2_code 2 (some .char) (z_prR 5 100) base sp adV H0 [.ref (adV k), .int (Int32.ofInt (n : Int))] (z_pI base H0 (Int32.ofInt ((z_Txt.getD k []).getD n 0))) := by
  obtain ⟨q1, q2, q3⟩ := z_p_lt k hk n (by have := (z_p_len k hk).1; omega) hn
  obtain ⟨q4, q5⟩ := z_p_small n (by have := (z_p_len k hk).1; omega)
  refine z_ofW (by decide) rfl ?_
  intro p e s m args below meth c s₁ B hml hx hv
  obtain ⟨rfl, hH, hQ⟩ := hv
  have hts := atoms_spec B.pre
  have hw : ∀ w ∈ z_W0, w.before #[.ref (adV k), .int (Int32.ofInt (n : Int))] s = true := fun w h => hts w (List.mem_cons_of_mem _ h)
  have hown : s.vm.findClass "java/lang/StringLatin1" = some m.cls := findClass_of_methodNamed B.named
  have hl := lv_entry [Value.ref (adV k), .int (Int32.ofInt (n : Int))] (n := 2) (Nat.le_of_ble_eq_true rfl)
  rw [lg_entry_eq]
  generalize (lg_sl [Value.ref (adV k), .int (Int32.ofInt (n : Int))] ++ List.replicate (2 - (lg_sl [Value.ref (adV k), .int (Int32.ofInt (n : Int))]).length) Slot.unset).toArray = ls at hl ⊢
  refine lv_iload_n (k := 1) B.exec B.bytes (by decide +kernel) rfl (lv_at hl 1 rfl) ?_
  refine lv_aload_n (k := 0) B.exec B.bytes (by decide +kernel) rfl (lv_at hl 0 rfl) ?_
  refine va_tlen B.exec B.bytes (hQ.1.1 k hk).2.2.2 va_S.rf rfl (by decide +kernel) ?_
  have hcall := va_runS (rest := []) (g := F0 m 3 ls [.int (Int32.ofNat ((z_Txt.map List.length).getD k 0)), .int (Int32.ofInt (n : Int))]) (H := s.heap) (locs := []) (cells := 0) (slots := 0) (e := e) (below := below) (meth := meth) (l := l) (R := (headSpec (Jvm.Cond.code (z_py "java/lang/StringLatin1" "charAt" "([BI)C") prog_25_method_2_code 2 (some .char) :: z_W0) (z_prR 5 100)).room) (n := 2) (index := 9) (As := [.int (Int32.ofInt (n : Int)), .int (Int32.ofNat ((z_Txt.map List.length).getD k 0))]) ⟨B.exec, B.bytes, hml, hown, hw⟩ (z_pMet (z_p_checkS (l := l) (base := base) (sp := sp) (adV := adV) (H0 := H0) q5 q1))
    (va_cwS 2 hw (z_good fun w hw2 => ?_) rfl rfl rfl ⟨by decide, by decide, by decide +kernel⟩ ⟨Nat.le_of_ble_eq_true rfl, Nat.le_of_ble_eq_true rfl⟩)
    ⟨z_PPb, fun U hU hW => ⟨rfl, by rw [hU]; exact hH, by rw [hU]; exact hQ.moved hW.alike⟩⟩ rfl rfl hl.1 rfl (Nat.le_of_ble_eq_true rfl) (show decode prog_25_method_2_code 3 = _ by decide +kernel) ⟨Nat.le_of_ble_eq_true rfl, Nat.le_of_ble_eq_true rfl⟩
  · refine va_callv (A0 := fun q => base ≤ q) (H0 := s.heap) hcall va_S.rf (fun _ _ h => h) (fun _ h => h) ?_
    intro u t H1 locs1 h1 h2 h3 h4 h5 h6 h7
    refine lv_aload_n (k := 0) B.exec B.bytes (by decide +kernel) rfl (lv_at hl 0 rfl) ?_
    refine lv_iload_n (k := 1) B.exec B.bytes (by decide +kernel) rfl (lv_at hl 1 rfl) ?_
    refine va_tb B.exec B.bytes (hQ.1.1 k hk).2.2.2 h7 (i := Int32.ofInt (n : Int)) (fun q => q.elim q5 (fun q => by rw [q4] at q; omega)) (v := .int (((z_Txt.map fun t => t.map Int32.ofInt).getD k []).getD n 0)) (by rw [q4]) (by decide +kernel) ?_
    refine lv_sipush B.exec B.bytes (n := 255) (v := 255) (by decide +kernel) (by decide) ?_
    refine lv_iand B.exec B.bytes (by decide +kernel) ?_
    refine lv_i2c B.exec B.bytes (by decide +kernel) q2 ?_
    exact vx_ret (W.zret B.exec B.bytes B.returns q3 (fun t9 ht hW => ⟨⟨_, (), rfl, rfl, (ht.trans h1.symm).trans h4⟩, va_S.F h7 ht⟩) h7.2.2 (by decide +kernel) B.notSynchronized)
  · rcases List.mem_append.mp (show w ∈ ([.methodLink "java/lang/StringLatin1" 9 (z_py "java/lang/String" "checkIndex" "(II)V"), .static (z_py "java/lang/String" "checkIndex" "(II)V"), .initialized "java/lang/String"] : List Jvm.Cond) ++ (_ :: z_W0) from hw2) with h | h
    · simp only [List.mem_cons, List.not_mem_nil, or_false] at h
      rcases h with rfl | rfl | rfl
      · exact z_t4 147 rfl rfl
      · exact z_t4 148 rfl rfl
      · exact z_t1 18 rfl rfl
    · rcases List.mem_cons.mp h with rfl | h
      · exact z_t4 149 rfl rfl
      · exact h
end ZPrims
theorem z_p_ad {base τ χ k : Nat} {sp : Nat → Nat} (hk : k < 5) : z_ad base τ χ sp (500000 + k) = sp (500000 + k) := by
  unfold z_ad
  rw [if_neg (by omega), if_neg (by omega), if_neg (by omega)]
theorem z_p_rec {base k : Nat} {sp adV : Nat → Nat} {s : State} (hk : k < 5) (hQ : z_StrQ base sp adV s s.heap) {H : Heap} {locs : List Loc} (hS : va_S (fun q => base ≤ q) s.heap H locs) : ∃ cell : Cell, H[sp (500000 + k)]? = some cell ∧ cell.vm.isStatics = false ∧ s.vm.findClass "java/lang/String" = some cell.cls := vk_recv (adK := fun k => sp (500000 + k)) hQ.1 hk hS
set_option maxHeartbeats 4000000 in
theorem z_prims : z_Prims := by
  intro l base D sp j As o hp d ph M
  rcases hp with ⟨rfl, k, hk, rfl, rfl⟩ | ⟨rfl, k, i, hk, hi, rfl, rfl⟩
  · unfold z_Ct
    intro τ χ
    have ha : [z_r (some (500000 + k))].map (z_gv (z_ad base τ χ sp)) = [.ref (sp (500000 + k))] := by
      show [Value.ref _] = _
      rw [z_p_ad hk]
    rw [ha, Nat.sub_self, Nat.sub_self]
    refine z_ofW (cc := prog_24_method_54_code) (maxL := 1) (ret := some .int) (ws' := z_W0) (by decide +kernel) rfl ?_
    intro p e s m args below meth c s₁ B hml hx hv
    obtain ⟨rfl, hP, hE⟩ := hv
    obtain ⟨adV, hQ⟩ := hE.2.2.2.2.2.2.2.2.1
    have hts := atoms_spec B.pre
    have hw : ∀ w ∈ z_W0, w.before #[.ref (sp (500000 + k))] s = true := fun w h => hts w (List.mem_cons_of_mem _ h)
    have hown : s.vm.findClass "java/lang/String" = some m.cls := findClass_of_methodNamed B.named
    have hl := lv_entry [Value.ref (sp (500000 + k))] (n := 1) (Nat.le_of_ble_eq_true rfl)
    rw [lg_entry_eq]
    generalize (lg_sl [Value.ref (sp (500000 + k))] ++ List.replicate (1 - (lg_sl [Value.ref (sp (500000 + k))]).length) Slot.unset).toArray = ls at hl ⊢
    refine lv_aload_n (k := 0) B.exec B.bytes (by decide +kernel) rfl (lv_at hl 0 rfl) ?_
    refine vk_getf B.exec B.bytes (hQ.1.1 k hk).2.2.1 va_S.rf hown (hw _ (z_t8 231 rfl rfl)) (fun x h => h) (by decide +kernel) ?_
    refine va_tlen B.exec B.bytes (hQ.1.1 k hk).2.2.2 va_S.rf rfl (by decide +kernel) ?_
    refine lv_aload_n (k := 0) B.exec B.bytes (by decide +kernel) rfl (lv_at hl 0 rfl) ?_
    have hcall := va_runV (rest := [.int (Int32.ofNat ((z_Txt.map List.length).getD k 0))]) (g := F0 m 6 ls [.ref (sp (500000 + k)), .int (Int32.ofNat ((z_Txt.map List.length).getD k 0))]) (H := s.heap) (locs := []) (cells := 0) (slots := 0) (e := e) (below := below) (meth := meth) (l := l) (R := { frames := d + 1 + 8, cells := 0, slots := 0, locals := 40 * (d + 1) + 120 }) (n := 0) (index := 335) (b := sp (500000 + k)) (As := []) ⟨B.exec, B.bytes, hml, hown, hw⟩ (z_pMet (z_p_coder (l := l) (base := base) (sp := sp) (adV := adV) (H0 := s.heap) hk))
      (cwV 0 hw (z_good fun w hw2 => ?_) rfl rfl rfl ⟨rfl, by decide, by decide, by decide +kernel⟩ ⟨by show 1 + 1 ≤ d + 1 + 8; omega, by show 8 + (1 + 11) + 20 ≤ 40 * (d + 1) + 120; omega⟩)
      ⟨z_PPb, z_p_rec hk hQ va_S.rf, fun U hU hW => ⟨rfl, hU, by rw [hU]; exact hQ.moved hW.alike⟩⟩ rfl rfl hl.1 rfl (Nat.le_of_ble_eq_true rfl) (show decode prog_24_method_54_code 6 = _ by decide +kernel) ⟨Nat.zero_le _, Nat.zero_le _⟩
    · refine va_calli (A0 := fun q => base ≤ q) (H0 := s.heap) hcall va_S.rf (fun _ _ h => h) (fun _ h => h) ?_
      intro r u t H1 locs1 h1 h2 h3 h4 h5 h6 h7
      cases h3
      have hH : H1 = s.heap := h1.symm.trans h4
      subst hH
      refine lv_ishr B.exec B.bytes (by decide +kernel) ?_
      rw [(z_p_len k hk).2.2]
      exact vx_ret (W.iret B.exec B.bytes B.returns (fun t9 ht hW => ⟨⟨some (z_i ((z_Txt.getD k []).length : Int)), rfl, fun a z => (by cases z), rfl⟩, (by rw [ht]; exact z_Pic_moved hW.alike (z_Pic_ph hP (Or.inl rfl))), va_S.F h7 ht⟩) h7.2.2 (by decide +kernel) B.notSynchronized)
    · rcases List.mem_append.mp (show w ∈ ([.methodLink "java/lang/String" 335 (z_py "java/lang/String" "coder" "()B"), .instanceMethod (z_py "java/lang/String" "coder" "()B"), .selects "java/lang/String" (z_py "java/lang/String" "coder" "()B") (z_py "java/lang/String" "coder" "()B"), .initialized "java/lang/String"] : List Jvm.Cond) ++ (_ :: z_W0) from hw2) with h | h
      · simp only [List.mem_cons, List.not_mem_nil, or_false] at h
        rcases h with rfl | rfl | rfl | rfl
        · exact z_t4 130 rfl rfl
        · exact z_t4 131 rfl rfl
        · exact z_t4 132 rfl rfl
        · exact z_t1 18 rfl rfl
      · rcases List.mem_cons.mp h with rfl | h
        · exact z_t4 133 rfl rfl
        · exact h
  · have hn : i < (z_Txt.map List.length).getD k 0 := by rw [(z_p_len k hk).2.1]; exact hi
    unfold z_Ct
    intro τ χ
    have ha : [z_r (some (500000 + k)), z_i (i : Int)].map (z_gv (z_ad base τ χ sp)) = [.ref (sp (500000 + k)), .int (Int32.ofInt (i : Int))] := by
      show [Value.ref _, Value.int _] = _
      rw [z_p_ad hk]
    rw [ha, Nat.sub_self, Nat.sub_self]
    refine z_ofW (cc := prog_24_method_56_code) (maxL := 2) (ret := some .char) (ws' := z_W0) (by decide +kernel) rfl ?_
    intro p e s m args below meth c s₁ B hml hx hv
    obtain ⟨rfl, hP, hE⟩ := hv
    obtain ⟨adV, hQ⟩ := hE.2.2.2.2.2.2.2.2.1
    have hts := atoms_spec B.pre
    have hw : ∀ w ∈ z_W0, w.before #[.ref (sp (500000 + k)), .int (Int32.ofInt (i : Int))] s = true := fun w h => hts w (List.mem_cons_of_mem _ h)
    have hown : s.vm.findClass "java/lang/String" = some m.cls := findClass_of_methodNamed B.named
    have hl := lv_entry [Value.ref (sp (500000 + k)), .int (Int32.ofInt (i : Int))] (n := 2) (Nat.le_of_ble_eq_true rfl)
    rw [lg_entry_eq]
    generalize (lg_sl [Value.ref (sp (500000 + k)), .int (Int32.ofInt (i : Int))] ++ List.replicate (2 - (lg_sl [Value.ref (sp (500000 + k)), .int (Int32.ofInt (i : Int))]).length) Slot.unset).toArray = ls at hl ⊢
    refine lv_aload_n (k := 0) B.exec B.bytes (by decide +kernel) rfl (lv_at hl 0 rfl) ?_
    have hcall := va_runV (rest := []) (g := F0 m 1 ls [.ref (sp (500000 + k))]) (H := s.heap) (locs := []) (cells := 0) (slots := 0) (e := e) (below := below) (meth := meth) (l := l) (R := { frames := d + 1 + 8, cells := 0, slots := 0, locals := 40 * (d + 1) + 120 }) (n := 0) (index := 492) (b := sp (500000 + k)) (As := []) ⟨B.exec, B.bytes, hml, hown, hw⟩ (z_pMet (z_p_isLatin1 (l := l) (base := base) (sp := sp) (adV := adV) (H0 := s.heap) hk))
      (cwV 0 hw (z_good fun w hw2 => ?_) rfl rfl rfl ⟨rfl, by decide, by decide, by decide +kernel⟩ ⟨by show 1 + 1 ≤ d + 1 + 8; omega, by show 8 + (1 + 11) + 20 ≤ 40 * (d + 1) + 120; omega⟩)
      ⟨z_PPb, z_p_rec hk hQ va_S.rf, fun U hU hW => ⟨rfl, hU, by rw [hU]; exact hQ.moved hW.alike⟩⟩ rfl rfl hl.1 rfl (Nat.le_of_ble_eq_true rfl) (show decode prog_24_method_56_code 1 = _ by decide +kernel) ⟨Nat.zero_le _, Nat.zero_le _⟩
    · refine va_calli (A0 := fun q => base ≤ q) (H0 := s.heap) hcall va_S.rf (fun _ _ h => h) (fun _ h => h) ?_
      intro r u t H1 locs1 h1 h2 h3 h4 h5 h6 h7
      cases h3
      have hH : H1 = s.heap := h1.symm.trans h4
      subst hH
      refine lv_if_eq B.exec B.bytes (off := 12) (tgt := 16) (by decide +kernel) rfl (fun h => absurd h (by decide)) fun _ => ?_
      refine lv_aload_n (k := 0) B.exec B.bytes (by decide +kernel) rfl (lv_at hl 0 rfl) ?_
      refine vk_getf B.exec B.bytes (hQ.1.1 k hk).2.2.1 h7 hown (hw _ (z_t8 231 rfl rfl)) (fun x h => h) (by decide +kernel) ?_
      refine lv_iload_n (k := 1) B.exec B.bytes (by decide +kernel) rfl (lv_at hl 1 rfl) ?_
      have hcall2 := va_runS (rest := []) (g := F0 m 12 ls [.int (Int32.ofInt (i : Int)), .ref (adV k)]) (H := s.heap) (locs := locs1) (cells := 0 + 0) (slots := 0 + 0) (e := e) (below := below) (meth := meth) (l := l) (R := { frames := d + 1 + 8, cells := 0, slots := 0, locals := 40 * (d + 1) + 120 }) (n := 2) (index := 495) (As := [.ref (adV k), .int (Int32.ofInt (i : Int))]) ⟨B.exec, B.bytes, hml, hown, hw⟩ (z_pMet (z_p_latin (l := l) (base := base) (sp := sp) (adV := adV) (H0 := s.heap) hk hn))
        (va_cwS 2 hw (z_good fun w hw2 => ?_) rfl rfl rfl ⟨by decide, by decide, by decide +kernel⟩ ⟨by show 5 + 1 ≤ d + 1 + 8; omega, by show 8 + (2 + 11) + 100 ≤ 40 * (d + 1) + 120; omega⟩)
        ⟨z_PPb, fun U hU hW => ⟨rfl, hU, by rw [hU]; exact hQ.moved hW.alike⟩⟩ rfl rfl hl.1 rfl (Nat.le_of_ble_eq_true rfl) (show decode prog_24_method_56_code 12 = _ by decide +kernel) ⟨Nat.zero_le _, Nat.zero_le _⟩
      · refine va_calli (A0 := fun q => base ≤ q) (H0 := s.heap) hcall2 h7 (fun _ _ h => h) (fun _ h => h) ?_
        intro r u t H1 locs2 g1 g2 g3 g4 g5 g6 g7
        cases g3
        have hH : H1 = s.heap := g1.symm.trans g4
        subst hH
        exact vx_ret (W.zret B.exec B.bytes B.returns (z_p_lt k hk i (by have := (z_p_len k hk).1; omega) hn).2.2 (fun t9 ht hW => ⟨⟨some (z_i ((z_Txt.getD k []).getD i 0)), rfl, fun a z => (by cases z), rfl⟩, (by rw [ht]; exact z_Pic_moved hW.alike (z_Pic_ph hP (Or.inl rfl))), va_S.F g7 ht⟩) g7.2.2 (by decide +kernel) B.notSynchronized)
      · rcases List.mem_append.mp (show w ∈ ([.methodLink "java/lang/String" 495 (z_py "java/lang/StringLatin1" "charAt" "([BI)C"), .static (z_py "java/lang/StringLatin1" "charAt" "([BI)C"), .initialized "java/lang/StringLatin1"] : List Jvm.Cond) ++ (_ :: z_W0) from hw2) with h | h
        · simp only [List.mem_cons, List.not_mem_nil, or_false] at h
          rcases h with rfl | rfl | rfl
          · exact z_t4 144 rfl rfl
          · exact z_t4 145 rfl rfl
          · exact z_t1 19 rfl rfl
        · rcases List.mem_cons.mp h with rfl | h
          · exact z_t4 146 rfl rfl
          · exact h
    · rcases List.mem_append.mp (show w ∈ ([.methodLink "java/lang/String" 492 (z_py "java/lang/String" "isLatin1" "()Z"), .instanceMethod (z_py "java/lang/String" "isLatin1" "()Z"), .selects "java/lang/String" (z_py "java/lang/String" "isLatin1" "()Z") (z_py "java/lang/String" "isLatin1" "()Z"), .initialized "java/lang/String"] : List Jvm.Cond) ++ (_ :: z_W0) from hw2) with h | h
      · simp only [List.mem_cons, List.not_mem_nil, or_false] at h
        rcases h with rfl | rfl | rfl | rfl
        · exact z_t4 140 rfl rfl
        · exact z_t4 141 rfl rfl
        · exact z_t4 142 rfl rfl
        · exact z_t1 18 rfl rfl
      · rcases List.mem_cons.mp h with rfl | h
        · exact z_t4 143 rfl rfl
        · exact h
