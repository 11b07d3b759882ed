/-! ===== the machine of numbers and the machine: what a value, the locals, the cells are ===== -/
theorem z_oa (x y : Int) : Int32.ofInt x + Int32.ofInt y = Int32.ofInt (x + y) := (Int32.ofInt_add x y).symm
theorem z_os (x y : Int) : Int32.ofInt x - Int32.ofInt y = Int32.ofInt (x - y) := (Int32.ofInt_sub x y).symm
theorem z_om (x y : Int) : Int32.ofInt x * Int32.ofInt y = Int32.ofInt (x * y) := (Int32.ofInt_mul x y).symm
theorem z_on (x : Int) : -Int32.ofInt x = Int32.ofInt (-x) := (Int32.ofInt_neg x).symm
theorem z_oal (x y : Int) : Int64.ofInt x + Int64.ofInt y = Int64.ofInt (x + y) := (Int64.ofInt_add x y).symm
theorem z_osl (x y : Int) : Int64.ofInt x - Int64.ofInt y = Int64.ofInt (x - y) := (Int64.ofInt_sub x y).symm
theorem z_oml (x y : Int) : Int64.ofInt x * Int64.ofInt y = Int64.ofInt (x * y) := (Int64.ofInt_mul x y).symm
theorem z_onl (x : Int) : -Int64.ofInt x = Int64.ofInt (-x) := (Int64.ofInt_neg x).symm
theorem z_ot (x : Int32) : Int32.ofInt x.toInt = x := Int32.ofInt_toInt x
theorem z_otl (x : Int64) : Int64.ofInt x.toInt = x := Int64.ofInt_toInt x
theorem z_i2l (x : Int) : (Int32.ofInt x).toInt64 = Int64.ofInt (z_w x) := by
  apply Int64.toInt_inj.mp
  rw [Int32.toInt_toInt64, ← Int32.toInt_toInt64, Int64.toInt_ofInt, z_w, Int32.toInt_toInt64]
  have h1 := Int32.le_toInt (Int32.ofInt x)
  have h2 := Int32.toInt_lt (Int32.ofInt x)
  have e : (Int64.size : Int) = 18446744073709551616 := rfl
  rw [Int.bmod_eq_of_le] <;> omega
theorem z_l2i (x : Int) : (Int64.ofInt x).toInt32 = Int32.ofInt x := by
  apply Int32.toInt_inj.mp
  rw [Int64.toInt_toInt32, Int64.toInt_ofInt, Int32.toInt_ofInt]
  exact Int.bmod_bmod_of_dvd (by decide)
theorem z_w_id {x : Int} (h1 : -2147483648 ≤ x) (h2 : x < 2147483648) : z_w x = x := by
  have e : (Int32.size : Int) = 4294967296 := rfl
  rw [z_w, Int32.toInt_ofInt, Int.bmod_eq_of_le] <;> omega
theorem z_wl_id {x : Int} (h1 : -9223372036854775808 ≤ x) (h2 : x < 9223372036854775808) : z_wl x = x := by
  have e : (Int64.size : Int) = 18446744073709551616 := rfl
  rw [z_wl, Int64.toInt_ofInt, Int.bmod_eq_of_le] <;> omega
theorem z_cn {x : Int} {n : Nat} (h0 : 0 ≤ x) (h1 : x < (n : Int)) (hn : n ≤ 1000000) : (Int32.ofInt x).toNatClampNeg = x.toNat ∧ vp_in (Int32.ofInt x) n := by
  have hw : (Int32.ofInt x).toInt = x := z_w_id (by omega) (by omega)
  have hc : (Int32.ofInt x).toNatClampNeg = x.toNat := by rw [← Int32.toNat_toInt, hw]
  refine ⟨hc, ?_⟩
  rintro (h | h)
  · have := Int32.lt_iff_toInt_lt.mp h
    rw [hw] at this
    simp at this
    omega
  · rw [hc] at h
    omega
def z_ad (base τ χ : Nat) (sp : Nat → Nat) (a : Nat) : Nat := if a < 300000 then base + a else if a = 300000 then τ else if a = 400000 then χ else sp a
def z_gv (f : Nat → Nat) (v : z_Av) : Value := match v with
  | .inl x => .int (Int32.ofInt x)
  | .inr (.inl x) => .long (Int64.ofInt x)
  | .inr (.inr none) => .null
  | .inr (.inr (some a)) => .ref (f a)
theorem z_gv_cat (f : Nat → Nat) (v : z_Av) : (z_gv f v).category = z_cat v := by
  rcases v with x | x | _ | a <;> rfl
theorem z_gv_cats (f : Nat → Nat) (S : List z_Av) : ((S.map (z_gv f)).map fun v => v.category) = S.map z_cat := by
  rw [List.map_map]
  exact List.map_congr_left fun v _ => z_gv_cat f v
theorem z_gv_c1 (f : Nat → Nat) {v : z_Av} (h : z_c1 v = true) : (z_gv f v).category = 1 := by
  rcases v with x | x | _ | a
  · rfl
  · cases h
  · rfl
  · rfl
/-- the locals as the kit tells them -/
def z_lo (f : Nat → Nat) : Nat → z_L → List (Nat × Value)
  | _, [] => []
  | i, none :: r => z_lo f (i + 1) r
  | i, some v :: r => (i, z_gv f v) :: z_lo f (i + 1) r
theorem z_mem_lo {f : Nat → Nat} {L : z_L} {q : Nat × Value} : ∀ {i : Nat}, q ∈ z_lo f i L ↔ ∃ (j : Nat) (v : z_Av), L[j]? = some (some v) ∧ q = (i + j, z_gv f v) := by
  induction L with
  | nil => intro i; simp [z_lo]
  | cons x r ih =>
    intro i
    rcases x with _ | v
    · rw [z_lo, ih]
      constructor
      · rintro ⟨j, w, h1, rfl⟩
        exact ⟨j + 1, w, by simpa using h1, by rw [show i + 1 + j = i + (j + 1) by omega]⟩
      · rintro ⟨j, w, h1, rfl⟩
        rcases j with _ | j
        · simp at h1
        · exact ⟨j, w, by simpa using h1, by rw [show i + 1 + j = i + (j + 1) by omega]⟩
    · rw [z_lo, List.mem_cons, ih]
      constructor
      · rintro (rfl | ⟨j, w, h1, rfl⟩)
        · exact ⟨0, v, by simp, by simp⟩
        · exact ⟨j + 1, w, by simpa using h1, by rw [show i + 1 + j = i + (j + 1) by omega]⟩
      · rintro ⟨j, w, h1, rfl⟩
        rcases j with _ | j
        · simp at h1
          subst h1
          exact Or.inl (by simp)
        · exact Or.inr ⟨j, w, by simpa using h1, by rw [show i + 1 + j = i + (j + 1) by omega]⟩
def z_has (f : Nat → Nat) (ls : Array Slot) (nL : Nat) (L : z_L) : Prop := L.length = nL ∧ lv_has ls nL (z_lo f 0 L)
theorem z_has_get {f : Nat → Nat} {ls : Array Slot} {nL : Nat} {L : z_L} (h : z_has f ls nL L) {i : Nat} {v : z_Av} (hv : L[i]? = some (some v)) : ls[i]? = some (.val (z_gv f v)) := by
  have := h.2.2.2 (i, z_gv f v) (z_mem_lo.mpr ⟨i, v, hv, by simp⟩)
  exact this
theorem z_has_weak {f : Nat → Nat} {ls : Array Slot} {nL : Nat} {L : z_L} {l : List (Nat × Value)} (hl : L.length = nL) (h : lv_has ls nL l) (hm : ∀ (j : Nat) (v : z_Av), L[j]? = some (some v) → (j, z_gv f v) ∈ l) : z_has f ls nL L := by
  refine ⟨hl, h.1, h.2.1, fun q hq => ?_⟩
  obtain ⟨j, v, h1, rfl⟩ := z_mem_lo.mp hq
  have := h.2.2 _ (hm j v h1)
  simpa using this
theorem z_kill_eq (L : z_L) (i : Nat) : z_kill L (i + 1) = L ∧ (∀ x, L[i]? ≠ some (some (z_l x))) ∨ z_kill L (i + 1) = L.set i none ∧ ∃ x, L[i]? = some (some (z_l x)) := by
  show (match L[i]? with | some (some (.inr (.inl _))) => L.set i none | _ => L) = L ∧ _ ∨ (match L[i]? with | some (some (.inr (.inl _))) => L.set i none | _ => L) = L.set i none ∧ _
  rcases hx : L[i]? with _ | _ | x | x | x
  · exact Or.inl ⟨rfl, fun x h => by cases h⟩
  · exact Or.inl ⟨rfl, fun x h => by cases h⟩
  · exact Or.inl ⟨rfl, fun x h => by cases h⟩
  · exact Or.inr ⟨rfl, x, rfl⟩
  · exact Or.inl ⟨rfl, fun x h => by cases h⟩
theorem z_kill_get {L : z_L} {i j : Nat} {v : z_Av} (h : (z_kill L i)[j]? = some (some v)) : L[j]? = some (some v) ∧ ¬ (j + 1 = i ∧ z_cat v = 2) := by
  rcases i with _ | i
  · exact ⟨h, by omega⟩
  · rcases z_kill_eq L i with ⟨e, hx⟩ | ⟨e, hx⟩
    · rw [e] at h
      refine ⟨h, ?_⟩
      rintro ⟨h1, h2⟩
      have : j = i := by omega
      subst this
      rcases v with x | x | x
      · simp [z_cat] at h2
      · exact hx x h
      · simp [z_cat] at h2
    · rw [e] at h
      by_cases hj : i = j
      · subst hj
        rw [List.getElem?_set] at h
        simp at h
      · rw [List.getElem?_set_ne hj] at h
        exact ⟨h, by omega⟩
theorem z_kill_len (L : z_L) (i : Nat) : (z_kill L i).length = L.length := by
  rcases i with _ | i
  · rfl
  · rcases z_kill_eq L i with ⟨e, -⟩ | ⟨e, -⟩ <;> rw [e] <;> simp
theorem z_has_st1 {f : Nat → Nat} {ls' : Array Slot} {nL : Nat} {L : z_L} {i : Nat} {v : z_Av} (hL : L.length = nL) (h : lv_has ls' nL ((i, z_gv f v) :: (z_lo f 0 L).filter (fun q => !(q.1 == i) && !(q.1 + 1 == i && q.2.category == 2)))) : z_has f ls' nL (z_st1 L i v) := by
  refine z_has_weak (by rw [z_st1, List.length_set, z_kill_len]; exact hL) h fun j w hj => ?_
  unfold z_st1 at hj
  by_cases e : i = j
  · subst e
    rw [List.getElem?_set_self'] at hj
    cases hk : (z_kill L i)[i]? with
    | none => rw [hk] at hj; cases hj
    | some u =>
      rw [hk] at hj
      simp at hj
      subst hj
      exact List.mem_cons_self
  · rw [List.getElem?_set_ne e] at hj
    obtain ⟨h1, h2⟩ := z_kill_get hj
    refine List.mem_cons_of_mem _ (List.mem_filter.mpr ⟨z_mem_lo.mpr ⟨j, w, h1, by simp⟩, ?_⟩)
    simp only [z_gv_cat]
    simp
    exact ⟨fun q => e q.symm, Classical.or_iff_not_imp_left.mpr fun q1 q2 => h2 ⟨Classical.not_not.mp q1, q2⟩⟩
theorem z_has_st2 {f : Nat → Nat} {ls' : Array Slot} {nL : Nat} {L : z_L} {i : Nat} {v : z_Av} (hL : L.length = nL) (h : lv_has ls' nL ((i, z_gv f v) :: (z_lo f 0 L).filter (fun q => !(q.1 == i) && (!(q.1 == i + 1) && !(q.1 + 1 == i && q.2.category == 2))))) : z_has f ls' nL (z_st2 L i v) := by
  refine z_has_weak (by rw [z_st2, List.length_set, List.length_set, z_kill_len]; exact hL) h fun j w hj => ?_
  unfold z_st2 at hj
  by_cases e1 : i + 1 = j
  · subst e1
    rw [List.getElem?_set_self'] at hj
    cases hk : ((z_kill L i).set i (some v))[i + 1]? with
    | none => rw [hk] at hj; cases hj
    | some u => rw [hk] at hj; simp at hj
  rw [List.getElem?_set_ne e1] at hj
  by_cases e : i = j
  · subst e
    rw [List.getElem?_set_self'] at hj
    cases hk : (z_kill L i)[i]? with
    | none => rw [hk] at hj; cases hj
    | some u =>
      rw [hk] at hj
      simp at hj
      subst hj
      exact List.mem_cons_self
  · rw [List.getElem?_set_ne e] at hj
    obtain ⟨h1, h2⟩ := z_kill_get hj
    refine List.mem_cons_of_mem _ (List.mem_filter.mpr ⟨z_mem_lo.mpr ⟨j, w, h1, by simp⟩, ?_⟩)
    simp only [z_gv_cat]
    simp
    exact ⟨fun q => e q.symm, fun q => e1 q.symm, Classical.or_iff_not_imp_left.mpr fun q1 q2 => h2 ⟨Classical.not_not.mp q1, q2⟩⟩
theorem z_has_msk {f : Nat → Nat} {ls : Array Slot} {nL : Nat} {L : z_L} (bs : List Bool) (hb : bs.length = nL) (h : z_has f ls nL L) : z_has f ls nL (z_msk bs L) := by
  have key : ∀ (bs : List Bool) (L : z_L), bs.length = L.length → (z_msk bs L).length = L.length ∧ ∀ (j : Nat) (v : z_Av), (z_msk bs L)[j]? = some (some v) → L[j]? = some (some v) := by
    intro bs
    induction bs with
    | nil =>
      intro L hL
      cases L with
      | nil => exact ⟨rfl, fun j v h => h⟩
      | cons x r => simp at hL
    | cons b bs ih =>
      intro L hL
      cases L with
      | nil => simp at hL
      | cons x r =>
        obtain ⟨h1, h2⟩ := ih r (by simpa using hL)
        cases b
        · refine ⟨by simp [z_msk, h1], fun j v hj => ?_⟩
          rcases j with _ | j
          · simp [z_msk] at hj
          · simp [z_msk] at hj
            simpa using h2 j v hj
        · refine ⟨by simp [z_msk, h1], fun j v hj => ?_⟩
          rcases j with _ | j
          · simpa [z_msk] using hj
          · simp [z_msk] at hj
            simpa using h2 j v hj
  obtain ⟨h1, h2⟩ := key bs L (hb.trans h.1.symm)
  exact z_has_weak (h1.trans h.1) h.2 fun j v hj => z_mem_lo.mpr ⟨j, v, h2 j v hj, by simp⟩
