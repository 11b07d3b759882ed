/-! ===== the interpreter is right about the machine of numbers ===== -/
def y_ad1 (t a : Nat) : Nat := if t = 104 then 500000 + a else if t = 105 then 600000 else if t = 106 then 400000 else if t = 107 then 300000 else a
def y_eb (v : y_Bv) : z_Av := match v with
  | .inl x => z_i x
  | .inr (.inl x) => z_l x
  | .inr (.inr (t, _, a)) => z_r (some (y_ad1 t a))
abbrev y_eL (L : y_BL) : z_L := L.map (Option.map y_eb)
/-- the relation: dn tells which typed references are good, nb how many cells there are at least -/
def y_RL (dn : Nat → Nat → Nat → Prop) (nb : Nat) (m : y_m) (M : z_M) : Prop :=
  z_n M = m.1 ∧ z_s M = m.2.1 ∧ z_I M = y_mI m ∧ z_J M = y_mJ m ∧ nb ≤ m.1 ∧
  (∀ t a k, t ≤ 49 → dn t 0 a → z_FT t k = 0 → z_R M a k = some (y_ra m t k a) ∧ dn (y_rk t k).1 (y_rk t k).2 (y_ra m t k a)) ∧
  (∀ t n a x, (t = 102 ∨ t = 103) → dn t n a → x < n → z_R M a x = some ((y_rx a).2.2.1 + (y_rx a).2.2.2 * x) ∧ dn (y_rx a).1 (y_rx a).2.1 ((y_rx a).2.2.1 + (y_rx a).2.2.2 * x))
def y_DN (dn : Nat → Nat → Nat → Prop) (nb : Nat) : Prop :=
  (∀ t n a, dn t n a → a < nb ∧ a < z_KL.length ∧ z_KL.getD a (98, 0) = (t, n) ∧ (t ≤ 49 → n = 0)) ∧ (∀ n a, dn 10 n a → a = 0)
def y_VD (dn : Nat → Nat → Nat → Prop) (v : y_Bv) : Prop := match v with
  | .inr (.inr (t, n, a)) => (t ≤ 103 ∧ dn t n a) ∨ (t = 104 ∧ a < 5) ∨ t = 105 ∨ t = 106 ∨ t = 107
  | _ => True
def y_own (v : y_Bv) : Option Nat := match v with
  | .inr (.inr (107, n, _)) => some n
  | _ => none
def y_okv (dn : Nat → Nat → Nat → Prop) (v : y_Bv) : Prop := y_VD dn v ∧ y_own v = none
def y_G (dn : Nat → Nat → Nat → Prop) (nb : Nat) (ph : Bool) (L : y_BL) (S : List y_Bv) (m : y_m) (P : z_P) (M : z_M) : Prop :=
  (∀ v, some v ∈ L → y_VD dn v) ∧ (∀ v ∈ S, y_VD dn v) ∧ y_RL dn nb m M ∧ P.1 = ph ∧ (∀ v n, (some v ∈ L ∨ v ∈ S) → y_own v = some n → ph = true ∧ n ≠ 0 ∧ P = (true, n))
section ZOk
variable {dn : Nat → Nat → Nat → Prop} {nb : Nat} {ph : Bool} {L L' : y_BL} {S S' : List y_Bv} {m m' : y_m} {P : z_P} {M M' : z_M} {v : y_Bv}
theorem y_okI {x : Int} : y_okv dn (y_bi x) := ⟨trivial, rfl⟩
theorem y_okL {x : Int} : y_okv dn (y_bl x) := ⟨trivial, rfl⟩
theorem y_okR {t n a : Nat} (h : dn t n a) (ht : t ≤ 103) : y_okv dn (y_bo t n a) := by
  refine ⟨Or.inl ⟨ht, h⟩, ?_⟩
  show (match (y_bo t n a) with
    | .inr (.inr (107, n, _)) => some n
    | _ => none) = none
  split
  · rename_i heq
    simp only [y_bo, Sum.inr.injEq, Prod.mk.injEq] at heq
    omega
  · rfl
theorem y_okW {n a : Nat} (h : a < 5) : y_okv dn (y_bo 104 n a) := ⟨Or.inr (Or.inl ⟨rfl, h⟩), rfl⟩
theorem y_okX {n a : Nat} : y_okv dn (y_bo 106 n a) := ⟨Or.inr (Or.inr (Or.inr (Or.inl rfl))), rfl⟩
theorem y_ok1 (h : y_VD dn v) (h1 : y_no1 v = true) : y_okv dn v := by
  refine ⟨h, ?_⟩
  unfold y_own
  split
  · rename_i n a
    have : Nat.ble 107 105 = true := h1
    exact absurd this (by decide)
  · rfl
theorem y_G_sub (hg : y_G dn nb ph L S m P M) (hM : y_RL dn nb m' M') (hL : ∀ v, some v ∈ L' → (some v ∈ L ∨ v ∈ S) ∨ y_okv dn v) (hS : ∀ v, v ∈ S' → (some v ∈ L ∨ v ∈ S) ∨ y_okv dn v) : y_G dn nb ph L' S' m' P M' := by
  obtain ⟨h1, h2, -, h4, h5⟩ := hg
  have hv : ∀ v, ((some v ∈ L ∨ v ∈ S) ∨ y_okv dn v) → y_VD dn v := by
    intro v hv
    rcases hv with (hv | hv) | hv
    · exact h1 v hv
    · exact h2 v hv
    · exact hv.1
  have ho : ∀ v n, ((some v ∈ L ∨ v ∈ S) ∨ y_okv dn v) → y_own v = some n → ph = true ∧ n ≠ 0 ∧ P = (true, n) := by
    intro v n hv hn
    rcases hv with hv | hv
    · exact h5 v n hv hn
    · rw [hv.2] at hn; cases hn
  refine ⟨fun v q => hv v (hL v q), fun v q => hv v (hS v q), hM, h4, fun v n q hn => ?_⟩
  rcases q with q | q
  · exact ho v n (hL v q) hn
  · exact ho v n (hS v q) hn
theorem y_G_push (hv : y_okv dn v) (hg : y_G dn nb ph L S m P M) : y_G dn nb ph L (v :: S) m P M := by
  refine y_G_sub hg hg.2.2.1 (fun w hw => Or.inl (Or.inl hw)) (fun w hw => ?_)
  rcases List.mem_cons.mp hw with rfl | hw
  · exact Or.inr hv
  · exact Or.inl (Or.inr hw)
theorem y_G_drop (hg : y_G dn nb ph L (v :: S) m P M) : y_G dn nb ph L S m P M := y_G_sub hg hg.2.2.1 (fun w hw => Or.inl (Or.inl hw)) (fun w hw => Or.inl (Or.inr (List.mem_cons_of_mem _ hw)))
theorem y_G_drop2 {w : y_Bv} (hg : y_G dn nb ph L (v :: w :: S) m P M) : y_G dn nb ph L S m P M := y_G_drop (y_G_drop hg)
theorem y_G_drop3 {w u : y_Bv} (hg : y_G dn nb ph L (v :: w :: u :: S) m P M) : y_G dn nb ph L S m P M := y_G_drop (y_G_drop2 hg)
theorem y_G_mem (hM : y_RL dn nb m' M') (hg : y_G dn nb ph L S m P M) : y_G dn nb ph L S m' P M' := y_G_sub hg hM (fun w hw => Or.inl (Or.inl hw)) (fun w hw => Or.inl (Or.inr hw))
theorem y_G_load {n : Nat} (hl : L[n]? = some (some v)) (hg : y_G dn nb ph L S m P M) : y_G dn nb ph L (v :: S) m P M := by
  refine y_G_sub hg hg.2.2.1 (fun w hw => Or.inl (Or.inl hw)) (fun w hw => ?_)
  rcases List.mem_cons.mp hw with rfl | hw
  · exact Or.inl (Or.inl (List.mem_of_getElem? hl))
  · exact Or.inl (Or.inr hw)
theorem y_kil_mem {v : y_Bv} : ∀ {n : Nat} {L : y_BL}, some v ∈ y_kil L n → some v ∈ L
  | 0, L, h => h
  | i + 1, L, h => by
    have h' : some v ∈ (match L[i]? with
      | some (some (.inr (.inl _))) => L.set i none
      | _ => L) := h
    rcases hq : L[i]? with _ | _ | x | x | ⟨t, n, a⟩
    · rw [hq] at h'; exact h'
    · rw [hq] at h'; exact h'
    · rw [hq] at h'; exact h'
    · rw [hq] at h'
      rcases List.mem_or_eq_of_mem_set h' with h | h
      · exact h
      · cases h
    · rw [hq] at h'; exact h'
theorem y_p1_mem {n : Nat} {w : y_Bv} (h : some w ∈ y_p1 L n v) : some w ∈ L ∨ w = v := by
  rcases List.mem_or_eq_of_mem_set h with h | h
  · exact Or.inl (y_kil_mem h)
  · exact Or.inr (Option.some.inj h)
theorem y_p2_mem {n : Nat} {w : y_Bv} (h : some w ∈ y_p2 L n v) : some w ∈ L ∨ w = v := by
  rcases List.mem_or_eq_of_mem_set h with h | h
  · exact y_p1_mem h
  · cases h
theorem y_G_p1 {n : Nat} (hg : y_G dn nb ph L (v :: S) m P M) : y_G dn nb ph (y_p1 L n v) S m P M := by
  refine y_G_sub hg hg.2.2.1 (fun w hw => ?_) (fun w hw => Or.inl (Or.inr (List.mem_cons_of_mem _ hw)))
  rcases y_p1_mem hw with h | rfl
  · exact Or.inl (Or.inl h)
  · exact Or.inl (Or.inr List.mem_cons_self)
theorem y_G_p2 {n : Nat} (hg : y_G dn nb ph L (v :: S) m P M) : y_G dn nb ph (y_p2 L n v) S m P M := by
  refine y_G_sub hg hg.2.2.1 (fun w hw => ?_) (fun w hw => Or.inl (Or.inr (List.mem_cons_of_mem _ hw)))
  rcases y_p2_mem hw with h | rfl
  · exact Or.inl (Or.inl h)
  · exact Or.inl (Or.inr List.mem_cons_self)
theorem y_mk_mem {v : y_Bv} : ∀ {bs : List Bool} {L : y_BL}, some v ∈ y_mk bs L → some v ∈ L
  | true :: bs, w :: L, h => by
    rcases List.mem_cons.mp h with h | h
    · exact h ▸ List.mem_cons_self
    · exact List.mem_cons_of_mem _ (y_mk_mem h)
  | false :: bs, w :: L, h => by
    rcases List.mem_cons.mp h with h | h
    · cases h
    · exact List.mem_cons_of_mem _ (y_mk_mem h)
  | [], _, h => by unfold y_mk at h; cases h
  | true :: _, [], h => by unfold y_mk at h; cases h
  | false :: _, [], h => by unfold y_mk at h; cases h
theorem y_G_mk {bs : List Bool} (hg : y_G dn nb ph L S m P M) : y_G dn nb ph (y_mk bs L) S m P M := y_G_sub hg hg.2.2.1 (fun w hw => Or.inl (Or.inl (y_mk_mem hw))) (fun w hw => Or.inl (Or.inr hw))
theorem y_mkt_mem {md : z_Md} {t : Nat} (h : some v ∈ y_mkt md t L) : some v ∈ L := by
  unfold y_mkt at h
  split at h
  · exact y_mk_mem h
  · exact h
theorem y_G_mkt {md : z_Md} {t : Nat} (hg : y_G dn nb ph L S m P M) : y_G dn nb ph (y_mkt md t L) S m P M := y_G_sub hg hg.2.2.1 (fun w hw => Or.inl (Or.inl (y_mkt_mem hw))) (fun w hw => Or.inl (Or.inr hw))
theorem y_mk_mk : ∀ {bs : List Bool} {L : y_BL}, y_mk bs (y_mk bs L) = y_mk bs L
  | true :: bs, w :: L => congrArg (w :: ·) y_mk_mk
  | false :: bs, w :: L => congrArg (none :: ·) y_mk_mk
  | [], [] => rfl
  | [], _ :: _ => rfl
  | true :: _, [] => rfl
  | false :: _, [] => rfl
theorem y_eL_mk : ∀ {bs : List Bool} {L : y_BL}, y_eL (y_mk bs L) = z_msk bs (y_eL L)
  | true :: bs, w :: L => congrArg (Option.map y_eb w :: ·) y_eL_mk
  | false :: bs, w :: L => congrArg (none :: ·) y_eL_mk
  | [], [] => rfl
  | [], _ :: _ => rfl
  | true :: _, [] => rfl
  | false :: _, [] => rfl
theorem y_eL_get {n : Nat} (h : L[n]? = some (some v)) : (y_eL L)[n]? = some (some (y_eb v)) := by rw [List.getElem?_map, h]; rfl
theorem y_eL_len : (y_eL L).length = L.length := List.length_map ..
theorem y_eL_kil : ∀ {n : Nat} {L : y_BL}, y_eL (y_kil L n) = z_kill (y_eL L) n
  | 0, L => rfl
  | i + 1, L => by
    show y_eL (match L[i]? with
      | some (some (.inr (.inl _))) => L.set i none
      | _ => L) = (match (y_eL L)[i]? with
      | some (some (.inr (.inl _))) => (y_eL L).set i none
      | _ => y_eL L)
    rw [List.getElem?_map]
    rcases L[i]? with _ | _ | x | x | ⟨t, n, a⟩
    · rfl
    · rfl
    · rfl
    · show (L.set i none).map _ = _
      rw [List.map_set]; rfl
    · rfl
theorem y_eL_p1 {n : Nat} : y_eL (y_p1 L n v) = z_st1 (y_eL L) n (y_eb v) := by
  unfold y_p1 z_st1
  rw [← y_eL_kil, y_eL, List.map_set]; rfl
theorem y_eL_p2 {n : Nat} : y_eL (y_p2 L n v) = z_st2 (y_eL L) n (y_eb v) := by
  unfold y_p2 z_st2
  rw [← y_eL_kil, y_eL, List.map_set, List.map_set]; rfl
theorem y_bc_cat : z_cat (y_eb v) = y_bc v := by rcases v with x | x | ⟨t, n, a⟩ <;> rfl
theorem y_bc_c1 (h : Nat.beq (y_bc v) 1 = true) : z_c1 (y_eb v) = true := by
  rcases v with x | x | ⟨t, n, a⟩
  · rfl
  · have h' : Nat.beq 2 1 = true := h
    exact absurd h' (by decide)
  · rfl
theorem y_cs_sum : ∀ {S : List y_Bv}, ((S.map y_eb).map z_cat).sum = y_cs S
  | [] => rfl
  | v :: S => by rw [List.map_cons, List.map_cons, List.sum_cons, y_cs_sum, y_bc_cat]; rfl
theorem y_eL_en : ∀ {As : List y_Bv} {n : Nat}, y_eL (y_en n As) = z_ent n (As.map y_eb)
  | [], n => by show (List.replicate n none).map _ = _; rw [List.map_replicate]; rfl
  | v :: As, n => by
    rcases v with x | x | ⟨t, k, a⟩
    · exact congrArg (some (z_i x) :: ·) y_eL_en
    · exact congrArg (fun q => some (z_l x) :: none :: q) y_eL_en
    · exact congrArg (some (z_r (some (y_ad1 t a))) :: ·) y_eL_en
theorem y_en_mem {v : y_Bv} : ∀ {As : List y_Bv} {n : Nat}, some v ∈ y_en n As → v ∈ As
  | [], n, h => by
    have := List.eq_of_mem_replicate h
    cases this
  | w :: As, n, h => by
    have h' : some v ∈ (match y_bc w with
      | 2 => some w :: none :: y_en (n - 2) As
      | _ => some w :: y_en (n - 1) As) := h
    split at h'
    · rcases List.mem_cons.mp h' with q | h'
      · cases q; exact List.mem_cons_self
      · rcases List.mem_cons.mp h' with q | h'
        · cases q
        · exact List.mem_cons_of_mem _ (y_en_mem h')
    · rcases List.mem_cons.mp h' with q | h'
      · cases q; exact List.mem_cons_self
      · exact List.mem_cons_of_mem _ (y_en_mem h')
theorem y_noS_mem : ∀ {S : List y_Bv}, y_noS S = true → ∀ v ∈ S, y_no1 v = true
  | [], _, v, h => by cases h
  | w :: S, h, v, hv => by
    have h' : (y_no1 w && y_noS S) = true := h
    rw [Bool.and_eq_true] at h'
    rcases List.mem_cons.mp hv with rfl | hv
    · exact h'.1
    · exact y_noS_mem h'.2 v hv
theorem y_noL_mem : ∀ {L : y_BL}, y_noL L = true → ∀ v, some v ∈ L → y_no1 v = true
  | [], _, v, h => by cases h
  | some w :: L, h, v, hv => by
    have h' : (y_no1 w && y_noL L) = true := h
    rw [Bool.and_eq_true] at h'
    rcases List.mem_cons.mp hv with q | hv
    · cases q; exact h'.1
    · exact y_noL_mem h'.2 v hv
  | none :: L, h, v, hv => by
    rcases List.mem_cons.mp hv with q | hv
    · cases q
    · exact y_noL_mem (L := L) h v hv
theorem y_no1_ad (hd : y_DN dn nb) (h : y_VD dn v) (h1 : y_no1 v = true) : y_eb v ≠ z_r (some 300000) ∧ y_eb v ≠ z_r (some 400000) := by
  rcases v with x | x | ⟨t, n, a⟩
  · exact ⟨fun z => (by cases z), fun z => (by cases z)⟩
  · exact ⟨fun z => (by cases z), fun z => (by cases z)⟩
  · have ht : t ≤ 105 := Nat.le_of_ble_eq_true h1
    have hl : z_KL.length = 106 := rfl
    have hv : (t ≤ 103 ∧ dn t n a) ∨ (t = 104 ∧ a < 5) ∨ t = 105 ∨ t = 106 ∨ t = 107 := h
    have : y_ad1 t a ≠ 300000 ∧ y_ad1 t a ≠ 400000 := by
      unfold y_ad1
      rcases hv with ⟨h2, h3⟩ | ⟨rfl, h3⟩ | rfl | rfl | rfl
      · have := (hd.1 t n a h3).2.1
        rw [if_neg (by omega), if_neg (by omega), if_neg (by omega), if_neg (by omega)]
        omega
      · rw [if_pos rfl]; omega
      · exact ⟨by simp, by simp⟩
      · omega
      · omega
    exact ⟨fun z => this.1 (Option.some.inj (Sum.inr.inj (Sum.inr.inj z))), fun z => this.2 (Option.some.inj (Sum.inr.inj (Sum.inr.inj z)))⟩
theorem y_ad1_lt {t a : Nat} (h : t ≤ 103) : y_ad1 t a = a := by
  unfold y_ad1
  rw [if_neg (by omega), if_neg (by omega), if_neg (by omega), if_neg (by omega)]
theorem y_kd_dn (hd : y_DN dn nb) (hr : y_RL dn nb m M) {t n a : Nat} (h : dn t n a) (hP : P.1 = ph) : z_kd P M a = (t, n) := by
  obtain ⟨h1, h2, h3, -⟩ := hd.1 t n a h
  have h5 : nb ≤ z_n M := by rw [hr.1]; exact hr.2.2.2.2.1
  unfold z_kd
  rw [if_neg (by have hl : z_KL.length = 106 := rfl; omega)]
  cases hq : P.1
  · rw [if_pos (by rw [if_neg (by simp)]; omega)]; exact h3
  · rw [if_pos (by rw [if_pos rfl]; exact h2)]; exact h3
theorem y_kd_own {n : Nat} (hP : P = (true, n)) (hn : n ≠ 0) : z_kd P M 300000 = (100, n) := by
  subst hP
  unfold z_kd
  rw [if_pos rfl, if_pos ⟨rfl, hn⟩]
theorem y_VD_ref {t n a : Nat} (hg : y_G dn nb ph L (y_bo t n a :: S) m P M) (ht : t ≤ 103) : dn t n a := by
  have : (t ≤ 103 ∧ dn t n a) ∨ (t = 104 ∧ a < 5) ∨ t = 105 ∨ t = 106 ∨ t = 107 := hg.2.1 _ List.mem_cons_self
  rcases this with h | h | h | h | h
  · exact h.2
  all_goals omega
theorem y_RL_sI {a k : Nat} {x : Int} (h : y_RL dn nb m M) : y_RL dn nb (y_sI m a k x) (z_setI M a k x) := by
  obtain ⟨h1, h2, h3, h4, h5, h6, h7⟩ := h
  refine ⟨h1, h2, ?_, h4, h5, h6, h7⟩
  show z_up (z_I M) a k x = z_up (y_mI m) a k x
  rw [h3]
theorem y_RL_sJ {a k : Nat} {x : Int} (h : y_RL dn nb m M) : y_RL dn nb (y_sJ m a k x) (z_setJ M a k x) := by
  obtain ⟨h1, h2, h3, h4, h5, h6, h7⟩ := h
  refine ⟨h1, h2, h3, ?_, h5, h6, h7⟩
  show z_up (z_J M) a k x = z_up (y_mJ m) a k x
  rw [h4]
theorem y_RL_tm (h : y_RL dn nb m M) : y_RL dn nb (y_tm m) (z_n M + 1, z_s M + 6, z_R M, z_I M, z_J M) := by
  obtain ⟨h1, h2, h3, h4, h5, h6, h7⟩ := h
  exact ⟨congrArg (· + 1) h1, congrArg (· + 6) h2, h3, h4, Nat.le_succ_of_le h5, h6, h7⟩
theorem y_RL_nm {x : Nat} (h : y_RL dn nb m M) : y_RL dn nb (y_nm m x) (z_n M + 1, z_s M + x, z_R M, z_row (z_I M) 300000 (fun _ => 0), z_J M) := by
  obtain ⟨h1, h2, h3, h4, h5, h6, h7⟩ := h
  refine ⟨congrArg (· + 1) h1, congrArg (· + x) h2, ?_, h4, Nat.le_succ_of_le h5, h6, h7⟩
  show z_row (z_I M) 300000 (fun _ => 0) = z_row (y_mI m) 300000 (fun _ => 0)
  rw [h3]
theorem y_RL_sB (hd : y_DN dn nb) {n n' k b : Nat} (hk : k = 9 ∨ k = 10) (h0 : dn 10 n 0) (hb : dn 0 n' b) (h : y_RL dn nb m M) : y_RL dn nb (y_sB m k b) (z_setR M 0 k (some b)) := by
  obtain ⟨h1, h2, h3, h4, h5, h6, h7⟩ := h
  have hn' : n' = 0 := (hd.1 0 n' b hb).2.2.2 (by omega)
  subst hn'
  have hn : n = 0 := (hd.1 10 n 0 h0).2.2.2 (by omega)
  subst hn
  have h10 : z_KL.getD 0 (98, 0) = (10, 0) := rfl
  refine ⟨h1, h2, h3, h4, h5, fun t a i ht ha hf => ?_, fun t n a x ht ha hx => ?_⟩
  · obtain ⟨q1, q2⟩ := h6 t a i ht ha hf
    by_cases hai : a = 0 ∧ i = k
    · obtain ⟨rfl, rfl⟩ := hai
      have := (hd.1 t 0 0 ha).2.2.1
      rw [h10] at this
      cases this
      rcases hk with rfl | rfl
      · exact ⟨rfl, hb⟩
      · exact ⟨rfl, hb⟩
    · have e : z_R (z_setR M 0 k (some b)) a i = z_R M a i := if_neg hai
      rw [e]
      have e2 : y_ra (y_sB m k b) t i a = y_ra m t i a := by
        by_cases ht10 : t = 10
        · subst ht10
          have ha0 := hd.2 0 a ha
          subst ha0
          have hik : i ≠ k := fun q => hai ⟨rfl, q⟩
          unfold y_ra
          match i with
          | 9 => show y_mc (y_sB m k b) = y_mc m
                 rcases hk with rfl | rfl
                 · exact absurd rfl hik
                 · rfl
          | 10 => show y_mx (y_sB m k b) = y_mx m
                  rcases hk with rfl | rfl
                  · rfl
                  · exact absurd rfl hik
          | 0 => rfl
          | 1 => rfl
          | 2 => rfl
          | 3 => rfl
          | 4 => rfl
          | 5 => rfl
          | 6 => rfl
          | 7 => rfl
          | 8 => rfl
          | _ + 11 => rfl
        · unfold y_ra
          split
          · exact absurd rfl ht10
          · rfl
      rw [e2]
      exact ⟨q1, q2⟩
  · obtain ⟨q1, q2⟩ := h7 t n a x ht ha hx
    have ha0 : a ≠ 0 := by
      rintro rfl
      have := (hd.1 t n 0 ha).2.2.1
      rw [h10] at this
      cases this
      omega
    have e : z_R (z_setR M 0 k (some b)) a x = z_R M a x := if_neg (fun q => ha0 q.1)
    rw [e]
    exact ⟨q1, q2⟩
end ZOk
