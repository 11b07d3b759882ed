/-! ===== the same round told otherwise; images of an even boot ===== -/
def u_dh (u v : List Nat) : Prop := u.length = v.length ∧ ∃ f D : Int, (D = 1 ∨ D = -1) ∧ ∀ i : Int, q_at u i = q_at v (f + D * i)
section Same
variable {L lw : Nat} {u v w : List Nat} {b1 b2 : Bool}
theorem q_at_ge {w : List Nat} {i j : Int} (h : i % (w.length : Int) = j % (w.length : Int)) : q_at w i = q_at w j := by
  unfold q_at
  rw [h]
theorem q_at_mod {i : Int} : q_at w (i % (w.length : Int)) = q_at w i := q_at_ge (Int.emod_emod i _)
theorem q_at_lin {f D i : Int} : q_at w (f + D * (i % (w.length : Int))) = q_at w (f + D * i) := by
  refine q_at_ge ?_
  have e2 := Int.mul_ediv_add_emod i (w.length : Int)
  have e3 : f + D * i = f + D * (i % (w.length : Int)) + (D * (i / (w.length : Int))) * (w.length : Int) := by
    rw [Int.mul_assoc, Int.mul_comm (i / (w.length : Int)) (w.length : Int), Int.add_assoc, ← Int.mul_add, Int.add_comm (i % (w.length : Int)), e2]
  rw [e3, Int.add_mul_emod_self_right]
theorem q_at_shift {f g x : Int} (h : f % (w.length : Int) = g % (w.length : Int)) : q_at w (f + x) = q_at w (g + x) := by
  refine q_at_ge ?_
  rw [Int.add_emod, h, ← Int.add_emod]
theorem u_dh_refl : u_dh w w := ⟨rfl, 0, 1, Or.inl rfl, fun i => by rw [Int.zero_add, Int.one_mul]⟩
theorem u_dh_trans (h1 : u_dh u v) (h2 : u_dh v w) : u_dh u w := by
  obtain ⟨l1, f, D, hD, h1⟩ := h1
  obtain ⟨l2, g, E, hE, h2⟩ := h2
  refine ⟨l1.trans l2, g + E * f, E * D, ?_, fun i => ?_⟩
  · rcases hD with rfl | rfl <;> rcases hE with rfl | rfl <;> simp
  · rw [h1, h2, Int.mul_add, Int.mul_assoc, Int.add_assoc]
theorem u_dh_symm (h : u_dh u v) : u_dh v u := by
  obtain ⟨l, f, D, hD, h⟩ := h
  refine ⟨l.symm, -(D * f), D, hD, fun i => ?_⟩
  rw [h]
  refine congrArg (q_at v) ?_
  rcases hD with rfl | rfl <;> omega
theorem u_dh_ne (h : u_dh u v) (hn : v ≠ []) : u ≠ [] := fun q => by
  have l := h.1
  rw [q, List.length_nil] at l
  exact hn (List.length_eq_zero_iff.mp l.symm)
theorem u_dh_mem (h : u_dh u v) {x : Nat} (hx : x ∈ u) : x ∈ v := by
  obtain ⟨l, f, D, hD, h⟩ := h
  obtain ⟨i, hi, e⟩ := q_mem_at hx
  have hv : v ≠ [] := fun q => by rw [q, List.length_nil] at l; omega
  rw [← e, h]
  exact q_at_mem hv
theorem u_dh_nodup (h : u_dh u v) (hnd : v.Nodup) : u.Nodup := by
  obtain ⟨l, f, D, hD, h⟩ := h
  refine List.pairwise_iff_getElem.mpr (fun i j hi hj hij e => ?_)
  have hv : v ≠ [] := fun q => by rw [q, List.length_nil] at l; omega
  have e2 : q_at u (i : Int) = q_at u (j : Int) := by
    rw [q_at_nat hi, q_at_nat hj, List.getD_eq_getElem?_getD, List.getD_eq_getElem?_getD, List.getElem?_eq_getElem hi, List.getElem?_eq_getElem hj, e]
  rw [h, h] at e2
  have e3 := q_at_inj hnd hv e2
  rcases hD with rfl | rfl
  · have e4 : ((f + 1 * (j : Int)) - (f + 1 * (i : Int))) % (v.length : Int) = 0 := by rw [Int.sub_emod, e3, Int.sub_self, Int.zero_emod]
    have e5 := Int.le_of_dvd (by omega) (Int.dvd_of_emod_eq_zero e4)
    omega
  · have e4 : ((f + -1 * (i : Int)) - (f + -1 * (j : Int))) % (v.length : Int) = 0 := by rw [Int.sub_emod, e3, Int.sub_self, Int.zero_emod]
    have e5 := Int.le_of_dvd (by omega) (Int.dvd_of_emod_eq_zero e4)
    omega
theorem q_own_at (hn : w ≠ []) (i : Int) : q_at (q_own w) i = q_at w ((q_sx w : Int) + q_sd w * i) := by
  have hl : 0 < w.length := List.length_pos_iff.mpr hn
  have m1 := Int.emod_nonneg i (show (w.length : Int) ≠ 0 by omega)
  have m2 := Int.emod_lt_of_pos i (show (0 : Int) < (w.length : Int) by omega)
  have e : q_at (q_own w) i = q_oj w (i % (w.length : Int)).toNat := by
    show (q_own w).getD (i % ((q_own w).length : Int)).toNat 0 = _
    rw [q_own_len, q_own_get (by omega)]
  rw [e]
  unfold q_oj
  rw [Int.toNat_of_nonneg m1]
  exact q_at_lin
theorem u_dh_own (hn : w ≠ []) : u_dh (q_own w) w := ⟨q_own_len w, q_sx w, q_sd w, q_sd_or w, q_own_at hn⟩
theorem q_own_0 (hn : w ≠ []) : q_at (q_own w) 0 = q_at w (q_sx w) := by rw [q_own_at hn, Int.mul_zero, Int.add_zero]
theorem q_own_1 (hn : w ≠ []) : q_at (q_own w) 1 ≤ q_at (q_own w) (-1) := by
  rw [q_own_at hn, q_own_at hn]
  unfold q_sd
  split
  · rename_i q
    rw [show (q_sx w : Int) + -1 * 1 = (q_sx w : Int) - 1 by omega, show (q_sx w : Int) + -1 * -1 = (q_sx w : Int) + 1 by omega]
    exact q
  · rename_i q
    rw [show (q_sx w : Int) + 1 * 1 = (q_sx w : Int) + 1 by omega, show (q_sx w : Int) + 1 * -1 = (q_sx w : Int) - 1 by omega]
    omega
/-- two tellings alike in begin and direction are one -/
theorem u_dh_eq (hnd : v.Nodup) (hn : v ≠ []) (h : u_dh u v) (u0 : ∀ x ∈ u, q_at u 0 ≤ x) (v0 : ∀ x ∈ v, q_at v 0 ≤ x) (u1 : q_at u 1 ≤ q_at u (-1)) (v1 : q_at v 1 ≤ q_at v (-1)) : u = v := by
  have h' := h
  have hu := u_dh_ne h hn
  obtain ⟨l, f, D, hD, h⟩ := h
  have e0 : q_at v f = q_at v 0 := by
    have a := h 0
    rw [Int.mul_zero, Int.add_zero] at a
    have b := u0 _ (u_dh_mem (u_dh_symm h') (q_at_mem (w := v) (i := 0) hn))
    have c := v0 _ (q_at_mem (w := v) (i := f) hn)
    omega
  have ef := q_at_inj hnd hn e0
  have hf : ∀ i : Int, q_at u i = q_at v (D * i) := fun i => by
    rw [h, q_at_shift ef, Int.zero_add]
  have key : ∀ i : Int, q_at u i = q_at v i := by
    rcases hD with rfl | rfl
    · intro i
      rw [hf, Int.one_mul]
    · have a1 := hf 1
      have a2 := hf (-1)
      rw [show (-1 : Int) * 1 = -1 from rfl] at a1
      rw [show (-1 : Int) * -1 = 1 from rfl] at a2
      have e2 := q_at_inj hnd hn (show q_at v 1 = q_at v (-1) by omega)
      intro i
      rw [hf]
      refine q_at_ge ?_
      have e3 : ((-1 : Int) * i) % (v.length : Int) = (1 * i) % (v.length : Int) := by rw [Int.mul_emod, ← e2, ← Int.mul_emod]
      rw [e3, Int.one_mul]
  refine List.ext_getElem l (fun j h1 h2 => ?_)
  have := key j
  rw [q_at_nat h1, q_at_nat h2, List.getD_eq_getElem?_getD, List.getD_eq_getElem?_getD, List.getElem?_eq_getElem h1, List.getElem?_eq_getElem h2] at this
  exact this
theorem q_own_ne (hn : w ≠ []) : q_own w ≠ [] := u_dh_ne (u_dh_own hn) hn
theorem u_own_eq (hnd : v.Nodup) (hn : v ≠ []) (h : u_dh u v) : q_own u = q_own v := by
  have hu := u_dh_ne h hn
  have hx : u_dh (q_own u) (q_own v) := u_dh_trans (u_dh_own hu) (u_dh_trans h (u_dh_symm (u_dh_own hn)))
  exact u_dh_eq (u_dh_nodup (u_dh_own hn) hnd) (q_own_ne hn) hx (fun x hx => by rw [q_own_0 hu]; exact q_sx_min (q_own_mem.mp hx)) (fun x hx => by rw [q_own_0 hn]; exact q_sx_min (q_own_mem.mp hx)) (q_own_1 hu) (q_own_1 hn)
theorem u_own_dh (hn : v ≠ []) (hu : u ≠ []) (h : q_own u = q_own v) : u_dh u v := u_dh_trans (u_dh_symm (u_dh_own hu)) (h ▸ u_dh_own hn)
theorem u_own_own (hnd : w.Nodup) (hn : w ≠ []) : q_own (q_own w) = q_own w := u_own_eq hnd hn (u_dh_own hn)
theorem q_at_map {g : Nat → Nat} (hn : w ≠ []) (i : Int) : q_at (w.map g) i = g (q_at w i) := by
  have hl : 0 < w.length := List.length_pos_iff.mpr hn
  have m1 := Int.emod_nonneg i (show (w.length : Int) ≠ 0 by omega)
  have m2 := Int.emod_lt_of_pos i (show (0 : Int) < (w.length : Int) by omega)
  unfold q_at
  rw [List.length_map, List.getD_eq_getElem?_getD, List.getD_eq_getElem?_getD, List.getElem?_eq_getElem (by rw [List.length_map]; omega), List.getElem?_eq_getElem (by omega)]
  exact List.getElem_map _
theorem u_dh_map {g : Nat → Nat} (hn : v ≠ []) (h : u_dh u v) : u_dh (u.map g) (v.map g) := by
  have hu := u_dh_ne h hn
  obtain ⟨l, f, D, hD, h⟩ := h
  exact ⟨by rw [List.length_map, List.length_map]; exact l, f, D, hD, fun i => by rw [q_at_map hu, q_at_map hn, h]⟩
theorem u_ol_iff {f D : Int} : ∀ (k i : Nat), u_ol L w b1 b2 f D k i = true ↔ ∀ j : Nat, i ≤ j → j < i + k → q_at w (f + D * (j : Int)) = u_ih L b1 b2 (q_at w (j : Int))
  | 0, i => ⟨fun _ j h1 h2 => absurd h2 (by omega), fun _ => rfl⟩
  | k + 1, i => by
    rw [u_ol, Bool.and_eq_true, u_ol_iff k (i + 1), decide_eq_true_iff]
    constructor
    · rintro ⟨h1, h2⟩ j h3 h4
      by_cases q : j = i
      · rw [q]; exact h1
      · exact h2 j (by omega) (by omega)
    · intro h
      exact ⟨h i (Nat.le_refl _) (by omega), fun j h1 h2 => h j (by omega) (by omega)⟩
theorem q_find_at {x : Nat} (h : q_find w x ≠ -1) : q_at w (q_find w x) = x := by
  unfold q_find at h ⊢
  by_cases c : x ∈ w
  · rw [if_pos c]
    have hi := List.idxOf_lt_length_iff.mpr c
    rw [q_at_nat hi, List.getD_eq_getElem?_getD, List.getElem?_eq_getElem hi]
    exact List.getElem_idxOf hi
  · rw [if_neg c] at h
    exact absurd rfl h
theorem q_find_mem {x : Nat} (h : x ∈ w) : q_find w x ≠ -1 := by
  unfold q_find
  rw [if_pos h]
  omega
/-- own image, as the class tries it -/
theorem u_oi_iff (hnd : w.Nodup) (h3 : 3 ≤ w.length) : u_oi L w b1 b2 = true ↔ u_dh (w.map (u_ih L b1 b2)) w := by
  have hn : w ≠ [] := fun q => by rw [q, List.length_nil] at h3; omega
  unfold u_oi
  constructor
  · intro h
    by_cases c : q_find w (u_ih L b1 b2 (q_at w 0)) = -1
    · rw [if_pos c] at h; cases h
    · rw [if_neg c, u_ol_iff] at h
      have e0 := q_find_at c
      have hD : u_oD L w b1 b2 = 1 ∨ u_oD L w b1 b2 = -1 := by unfold u_oD; split <;> simp
      refine ⟨List.length_map _, q_find w (u_ih L b1 b2 (q_at w 0)), u_oD L w b1 b2, hD, fun i => ?_⟩
      have m1 := Int.emod_nonneg i (show (w.length : Int) ≠ 0 by omega)
      have m2 := Int.emod_lt_of_pos i (show (0 : Int) < (w.length : Int) by omega)
      rw [q_at_map hn, ← q_at_lin (i := i), ← q_at_mod (i := i)]
      generalize i % (w.length : Int) = r at *
      obtain ⟨j, rfl⟩ := Int.eq_ofNat_of_zero_le m1
      by_cases z : j = 0
      · subst z
        rw [show ((0 : Nat) : Int) = 0 from rfl, Int.mul_zero, Int.add_zero, e0]
      · exact (h j (by omega) (by omega)).symm
  · rintro ⟨-, f, D, hD, h⟩
    have h' : ∀ i : Int, u_ih L b1 b2 (q_at w i) = q_at w (f + D * i) := fun i => (q_at_map (g := u_ih L b1 b2) hn i).symm.trans (h i)
    have e0 := h' 0
    rw [Int.mul_zero, Int.add_zero] at e0
    have c : q_find w (u_ih L b1 b2 (q_at w 0)) ≠ -1 := q_find_mem (by rw [e0]; exact q_at_mem hn)
    have ef := q_find_at c
    rw [e0] at ef
    rw [if_neg c, u_ol_iff]
    rw [← e0] at ef
    have e1 := q_at_inj hnd hn (ef.trans e0)
    have eD : u_oD L w b1 b2 = D := by
      unfold u_oD
      rw [q_at_shift e1, h' 1]
      rcases hD with rfl | rfl
      · rw [if_pos (by rw [Int.one_mul])]
      · rw [if_neg]
        intro q
        have e3 := q_at_inj hnd hn q
        have e4 : ((f + 1) - (f + -1 * 1)) % (w.length : Int) = 0 := by rw [Int.sub_emod, e3, Int.sub_self, Int.zero_emod]
        have e5 := Int.le_of_dvd (by omega) (Int.dvd_of_emod_eq_zero e4)
        omega
    intro j h1 h2
    rw [eD, q_at_shift e1, h']
theorem u_xcp_0 {a b : List Nat} : ∀ (k i : Nat), u_xcp a b k i = 0 ↔ ∀ j, i ≤ j → j < i + k → a.getD j 0 = b.getD j 0
  | 0, i => ⟨fun _ j h1 h2 => absurd h2 (by omega), fun _ => rfl⟩
  | k + 1, i => by
    rw [u_xcp]
    by_cases c : a.getD i 0 = b.getD i 0
    · rw [if_pos c, u_xcp_0 k (i + 1)]
      constructor
      · intro h j h3 h4
        by_cases q : j = i
        · rw [q]; exact c
        · exact h j (by omega) (by omega)
      · intro h j h3 h4
        exact h j (by omega) (by omega)
    · rw [if_neg c]
      constructor
      · intro h
        split at h <;> omega
      · intro h
        exact absurd (h i (Nat.le_refl _) (by omega)) c
theorem u_xcp_eq {a b : List Nat} (hl : a.length = b.length) : u_xcp a b b.length 0 = 0 ↔ a = b := by
  rw [u_xcp_0]
  constructor
  · intro h
    refine List.ext_getElem hl (fun j h1 h2 => ?_)
    have := h j (Nat.zero_le _) (by omega)
    rw [List.getD_eq_getElem?_getD, List.getD_eq_getElem?_getD, List.getElem?_eq_getElem h1, List.getElem?_eq_getElem h2] at this
    exact this
  · intro h j _ _
    rw [h]
theorem u_im_len : (u_im L w b1 b2).length = w.length := by
  unfold u_im
  rw [q_own_len, List.length_map]
theorem u_ci_0 : u_ci L w b1 b2 = 0 ↔ u_im L w b1 b2 = w := u_xcp_eq u_im_len
theorem u_map_ne {g : Nat → Nat} (hn : w ≠ []) : w.map g ≠ [] := fun q => hn (List.map_eq_nil_iff.mp q)
theorem u_ci_oi (hnd : w.Nodup) (h3 : 3 ≤ w.length) : u_ci L (q_own w) b1 b2 = 0 ↔ u_oi L w b1 b2 = true := by
  have hn : w ≠ [] := fun q => by rw [q, List.length_nil] at h3; omega
  rw [u_ci_0, u_oi_iff hnd h3]
  have hm : u_dh ((q_own w).map (u_ih L b1 b2)) (w.map (u_ih L b1 b2)) := u_dh_map hn (u_dh_own hn)
  unfold u_im
  constructor
  · intro h
    have a := u_dh_own (u_map_ne (g := u_ih L b1 b2) (q_own_ne hn))
    rw [h] at a
    exact u_dh_trans (u_dh_symm hm) (u_dh_trans (u_dh_symm a) (u_dh_own hn))
  · intro h
    exact u_own_eq hnd hn (u_dh_trans hm h)
theorem u_ih_id {h : Nat} : u_ih L false false h = (if h < L then h else L + (h - L)) := by
  unfold u_ih r_row
  by_cases c : h < L <;> simp [c]
theorem u_ih_map (w : List Nat) : w.map (u_ih L false false) = w := by
  have : ∀ h, u_ih L false false h = h := fun h => by rw [u_ih_id]; split <;> omega
  rw [show u_ih L false false = id from funext this, List.map_id]
/-- itself: both sides -/
theorem u_itself (hnd : w.Nodup) (h3 : 3 ≤ w.length) : u_it L w = u_si L w := by
  have hn : w ≠ [] := fun q => by rw [q, List.length_nil] at h3; omega
  have e : ∀ a b, n_b (decide (u_ci L (q_own w) a b = 0)) = n_b (u_oi L w a b) := fun a b => by
    refine congrArg n_b ?_
    have := u_ci_oi (L := L) (b1 := a) (b2 := b) hnd h3
    cases c : u_oi L w a b
    · exact decide_eq_false (fun q => by rw [this.mp q] at c; cases c)
    · exact decide_eq_true (this.mpr c)
  have e0 : decide (u_ci L (q_own w) false false = 0) = true := decide_eq_true (u_ci_0.mpr (by unfold u_im; rw [u_ih_map]; exact u_own_own hnd hn))
  unfold u_it u_si
  rw [e0, e, e, e]; rfl
end Same
