/-! ===== the cells, the picture of the heap, one instruction's worth of machine ===== -/
/-- what a cell of a kind holds, at the address q -/
def z_cell (base : Nat) (D : va_G) (U : State) (M : z_M) (H : Heap) (kd : Nat × Nat) (a q : Nat) : Prop :=
  (kd.1 < 50 → va_at D vwCl (q, .inr (kd.1, (List.range (z_FN kd.1)).map fun j => z_gv (fun r => base + r) (z_fv kd.1 j M a))) H) ∧
  (kd.1 = 100 → ∃ cA, (ArrOfT U cA .int ∧ va_RA U cA .int) ∧ H[q]? = some (vp_cell cA (kd.2, .inl fun k => Int32.ofInt (z_I M a k)))) ∧
  (kd.1 = 101 → ∃ cA, (ArrOfT U cA .long ∧ va_RA U cA .long) ∧ H[q]? = some (vp_cell cA (kd.2, .inr (.inl fun k => Int64.ofInt (z_J M a k))))) ∧
  (kd.1 = 102 → ∃ cA, ArrOfT U cA (.array .int) ∧ H[q]? = some (vp_cell cA (kd.2, .inr (.inr (.inr (.inr fun k => (z_R M a k).map (fun r => base + r))))))) ∧
  (kd.1 = 103 → ∃ cA, (ArrOfT U cA (.object "LacedHoles$Scene") ∧ va_RA U cA (.object "LacedHoles$Scene")) ∧ H[q]? = some (vp_cell cA (kd.2, .inr (.inr (.inr (.inr fun k => (z_R M a k).map (fun r => base + r)))))))
def z_same (M M' : z_M) (a : Nat) : Prop := (∀ k, z_I M' a k = z_I M a k) ∧ (∀ k, z_J M' a k = z_J M a k) ∧ ∀ k, z_R M' a k = z_R M a k
theorem z_same_fv {M M' : z_M} {a : Nat} (h : z_same M M' a) (c j : Nat) : z_fv c j M' a = z_fv c j M a := by
  unfold z_fv
  rw [h.1 j, h.2.2 j]
theorem z_cell_keep {base : Nat} {D : va_G} {U : State} {M M' : z_M} {H H1 : Heap} {kd : Nat × Nat} {a q : Nat} (h : z_cell base D U M H kd a q) (hs : z_same M M' a) (hq : H1[q]? = H[q]?) : z_cell base D U M' H1 kd a q := by
  obtain ⟨h1, h2, h3, h4, h5⟩ := h
  refine ⟨fun hk => ?_, fun hk => ?_, fun hk => ?_, fun hk => ?_, fun hk => ?_⟩
  · rw [show (fun j => z_gv (fun r => base + r) (z_fv kd.1 j M' a)) = (fun j => z_gv (fun r => base + r) (z_fv kd.1 j M a)) from funext fun j => by rw [z_same_fv hs]]
    exact (h1 hk).kept hq
  · obtain ⟨cA, g1, g2⟩ := h2 hk
    exact ⟨cA, g1, by rw [hq, g2, show z_I M' a = z_I M a from funext hs.1]⟩
  · obtain ⟨cA, g1, g2⟩ := h3 hk
    exact ⟨cA, g1, by rw [hq, g2, show z_J M' a = z_J M a from funext hs.2.1]⟩
  · obtain ⟨cA, g1, g2⟩ := h4 hk
    exact ⟨cA, g1, by rw [hq, g2, show z_R M' a = z_R M a from funext hs.2.2]⟩
  · obtain ⟨cA, g1, g2⟩ := h5 hk
    exact ⟨cA, g1, by rw [hq, g2, show z_R M' a = z_R M a from funext hs.2.2]⟩
theorem z_cell_moved {base : Nat} {D : va_G} {u U : State} {M : z_M} {H : Heap} {kd : Nat × Nat} {a q : Nat} (hvm : u.vm.Alike U.vm) (h : z_cell base D u M H kd a q) : z_cell base D U M H kd a q := by
  obtain ⟨h1, h2, h3, h4, h5⟩ := h
  refine ⟨h1, fun hk => ?_, fun hk => ?_, fun hk => ?_, fun hk => ?_⟩
  · obtain ⟨cA, g1, g2⟩ := h2 hk
    exact ⟨cA, ⟨arrOfT_moved hvm g1.1, g1.2.moved hvm⟩, g2⟩
  · obtain ⟨cA, g1, g2⟩ := h3 hk
    exact ⟨cA, ⟨arrOfT_moved hvm g1.1, g1.2.moved hvm⟩, g2⟩
  · obtain ⟨cA, g1, g2⟩ := h4 hk
    exact ⟨cA, arrOfT_moved hvm g1, g2⟩
  · obtain ⟨cA, g1, g2⟩ := h5 hk
    exact ⟨cA, ⟨arrOfT_moved hvm g1.1, g1.2.moved hvm⟩, g2⟩
/-- the address of a world's cell -/
def z_q (base τ a : Nat) : Nat := if a = 300000 then τ else base + a
/-- the heap holds the memory -/
def z_Pic (base : Nat) (D : va_G) (τ : Nat) (P : z_P) (M : z_M) (U : State) (H : Heap) : Prop :=
  va_K D vwCl [] U ∧ (P.1 = false → H.size = base + z_n M ∧ z_n M ≤ z_KL.length) ∧ (P.1 = true → base + z_KL.length ≤ H.size ∧ (P.2 ≠ 0 → base + z_KL.length ≤ τ ∧ τ < H.size)) ∧
  (∀ a, z_cell base D U M H (z_kd P M a) a (z_q base τ a)) ∧ ∀ a k r, z_R M a k = some r → r < 300000
theorem z_Pic_moved {base : Nat} {D : va_G} {τ : Nat} {P : z_P} {M : z_M} {u U : State} {H : Heap} (hvm : u.vm.Alike U.vm) (h : z_Pic base D τ P M u H) : z_Pic base D τ P M U H :=
  ⟨va_K.moved hvm h.1, h.2.1, h.2.2.1, fun a => z_cell_moved hvm (h.2.2.2.1 a), h.2.2.2.2⟩
theorem z_KL_len : z_KL.length = 106 := rfl
/-- the cells that a picture tells lie apart -/
theorem z_apart {base τ : Nat} {D : va_G} {P : z_P} {M : z_M} {U : State} {H : Heap} (h : z_Pic base D τ P M U H) {a b : Nat} (hab : a ≠ b) (ha : (z_kd P M a).1 ≠ 98) (hb : (z_kd P M b).1 ≠ 98) : z_q base τ a ≠ z_q base τ b := by
  have hl : ∀ x, x ≠ 300000 → (z_kd P M x).1 ≠ 98 → P.1 = true → x < z_KL.length := by
    intro x hx h1 hp
    unfold z_kd at h1
    rw [if_neg hx, if_pos hp] at h1
    by_cases hlt : x < z_KL.length
    · exact hlt
    · rw [if_neg hlt] at h1
      exact absurd rfl h1
  have ht : ∀ x, x = 300000 → (z_kd P M x).1 ≠ 98 → P.1 = true ∧ P.2 ≠ 0 := by
    intro x hx h1
    unfold z_kd at h1
    rw [if_pos hx] at h1
    by_cases hlt : P.1 = true ∧ P.2 ≠ 0
    · exact hlt
    · rw [if_neg hlt] at h1
      exact absurd rfl h1
  unfold z_q
  by_cases e1 : a = 300000
  · have e2 : b ≠ 300000 := fun q => hab (e1.trans q.symm)
    rw [if_pos e1, if_neg e2]
    obtain ⟨p1, p2⟩ := ht a e1 ha
    have := ((h.2.2.1 p1).2 p2).1
    have := hl b e2 hb p1
    omega
  · rw [if_neg e1]
    by_cases e2 : b = 300000
    · rw [if_pos e2]
      obtain ⟨p1, p2⟩ := ht b e2 hb
      have := ((h.2.2.1 p1).2 p2).1
      have := hl a e1 ha p1
      omega
    · rw [if_neg e2]
      omega
theorem z_cell98 {base : Nat} {D : va_G} {U : State} {M : z_M} {H : Heap} {kd : Nat × Nat} {a q : Nat} (h : kd.1 = 98) : z_cell base D U M H kd a q := by
  refine ⟨fun hk => ?_, fun hk => ?_, fun hk => ?_, fun hk => ?_, fun hk => ?_⟩ <;> omega
/-- one cell was written -/
theorem z_Pic_set {base τ : Nat} {D : va_G} {P : z_P} {M M' : z_M} {U : State} {H H1 : Heap} (h : z_Pic base D τ P M U H) {a : Nat} (ha : (z_kd P M a).1 ≠ 98) (hn : z_n M' = z_n M) (hsz : H1.size = H.size) (ho : ∀ q, q ≠ z_q base τ a → H1[q]? = H[q]?)
    (hs : ∀ b, b ≠ a → z_same M M' b) (hr : ∀ a k r, z_R M' a k = some r → r < 300000) (hc : z_cell base D U M' H1 (z_kd P M a) a (z_q base τ a)) : z_Pic base D τ P M' U H1 := by
  have hkd : ∀ b, z_kd P M' b = z_kd P M b := fun b => by unfold z_kd; rw [hn]
  refine ⟨h.1, fun hp => by rw [hsz, hn]; exact h.2.1 hp, fun hp => by rw [hsz]; exact h.2.2.1 hp, fun b => ?_, hr⟩
  rw [hkd b]
  by_cases e : b = a
  · subst e
    exact hc
  · by_cases hb : (z_kd P M b).1 = 98
    · exact z_cell98 hb
    · exact z_cell_keep (h.2.2.2.1 b) (hs b e) (ho _ (z_apart h e hb ha))
/-- what a running method's body may use: the machine, the code, the words, the base of the world -/
def z_W0 : List Jvm.Cond := lw_tbl.filter goodWord
def z_Cx (p : Program) (s : State) (m : MethodId) (args : Array Value) (meth : Method) (c : Code) (cc : ByteArray) (nL : Nat) (own : String) : Prop :=
  p.tables.exec = Jvm.exec ∧ c.code = cc ∧ c.maxLocals = nL ∧ s.vm.findClass own = some m.cls ∧ (∀ w ∈ z_W0, w.before args s = true) ∧ meth.locks = false
/-- the machine at a place, with the locals, the stack, the memory of numbers, comes to Q -/
def z_Wm (p : Program) (l : Launch) (e : Env) (R : Room) (s : State) (m : MethodId) (args : Array Value) (below : List Frame) (meth : Method) (c : Code) (Q : State → Prop) (base : Nat) (D : va_G) (sp : Nat → Nat) (nL : Nat) (M0 : z_M) (pc : Nat) (P : z_P) (L : z_L) (S : List z_Av) (M : z_M) : Prop :=
  ∀ (τ χ : Nat) (ls : Array Slot) (H : Heap) (locs : List Loc) (cells slots : Nat), z_has (z_ad base τ χ sp) ls nL L → z_Pic base D τ P M s H → va_S (fun q => base ≤ q) s.heap H locs → cells + z_n M0 = z_n M → slots + z_s M0 = z_s M →
    W p l e R s m args below meth c H locs cells slots Q (F0 m pc ls (S.map (z_gv (z_ad base τ χ sp))))
