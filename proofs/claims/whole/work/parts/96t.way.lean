/-! ===== ways: what is read ===== -/
def u_wy (f : Nat → Int) (n H : Nat) : Nat → Nat → Nat → List Nat → (Int × Int) ⊕ List Nat
  | 0, _, _, w => .inr w
  | k + 1, p, x, w => if n ≤ u_sc u_bl f n p then (if 3 ≤ w.length then .inr w else .inl (4, (n : Int))) else match u_nr f n 0 ((H : Int) - 1) (u_sc u_bl f n p) with
    | .inl y => .inl y
    | .inr y => if x.testBit y.1.toNat then .inl (2, (u_sc u_bl f n p : Nat)) else u_wy f n H k y.2 (x ||| 1 <<< y.1.toNat) (w ++ [y.1.toNat])
theorem n_subN : ∀ {l l' : List Nat}, l.Nodup → (∀ x, x ∈ l → x ∈ l') → l.length ≤ l'.length
  | [], _, _, _ => Nat.zero_le _
  | a :: l, l', h, hs => by
    have ha : a ∈ l' := hs a List.mem_cons_self
    have hn := List.nodup_cons.mp h
    have ih := n_subN (l := l) (l' := l'.erase a) hn.2 (fun x hx => by
      have : x ≠ a := fun r => hn.1 (r ▸ hx)
      exact (List.mem_erase_of_ne this).mpr (hs x (List.mem_cons_of_mem _ hx)))
    rw [List.length_erase_of_mem ha] at ih
    have := List.length_pos_of_mem ha
    rw [List.length_cons]; omega
theorem n_len12 {w : List Nat} (h : w.Nodup) (hb : ∀ x ∈ w, x < 12) : w.length ≤ 12 := by
  have := n_subN (l' := List.range 12) h (fun x hx => List.mem_range.mpr (hb x hx))
  rw [List.length_range] at this
  exact this
/-- what holds while a way is read -/
def u_wi (t H x : Nat) (w : List Nat) : Prop := H ≤ 12 ∧ x < 4096 ∧ w.Nodup ∧ (∀ h ∈ w, h < H ∧ t.testBit h = false) ∧ ∀ h, x.testBit h = (t.testBit h || decide (h ∈ w))
theorem u_wi_12 {t H x : Nat} {w : List Nat} (h : u_wi t H x w) : w.length ≤ 12 := n_len12 h.2.2.1 (fun x hx => by have := (h.2.2.2.1 x hx).1; have := h.1; omega)
theorem u_wi_add {t H x v : Nat} {w : List Nat} (h : u_wi t H x w) (hv : v < H) (hb : x.testBit v = false) : u_wi t H (x ||| 1 <<< v) (w ++ [v]) := by
  obtain ⟨h1, h2, h3, h4, h5⟩ := h
  have b := h5 v
  rw [hb] at b
  have b' := b.symm
  rw [Bool.or_eq_false_iff] at b'
  have vn : v ∉ w := of_decide_eq_false b'.2
  refine ⟨h1, u_or_lt h2 (by omega), ?_, fun y hy => ?_, fun y => ?_⟩
  · rw [List.nodup_append]
    refine ⟨h3, List.nodup_cons.mpr ⟨List.not_mem_nil, List.nodup_nil⟩, fun a ha c hc => ?_⟩
    rw [List.mem_singleton] at hc
    subst hc
    exact fun r => vn (r ▸ ha)
  · rcases List.mem_append.mp hy with q | q
    · exact h4 y q
    · rw [List.mem_singleton] at q; subst q; exact ⟨hv, b'.1⟩
  · rw [Nat.testBit_or, h5 y, Nat.one_shiftLeft, Nat.testBit_two_pow, Bool.or_assoc]
    congr 1
    by_cases q : y ∈ w
    · rw [decide_eq_true q, decide_eq_true (List.mem_append_left _ q), Bool.true_or]
    · rw [decide_eq_false q, Bool.false_or]
      by_cases r : v = y
      · rw [decide_eq_true r, decide_eq_true (List.mem_append_right _ (by rw [r]; exact List.mem_singleton_self y))]
      · rw [decide_eq_false r, decide_eq_false (fun s => (List.mem_append.mp s).elim q (fun s => r (List.mem_singleton.mp s).symm))]
theorem u_nr_ok {f : Nat → Int} {n p : Nat} {lo hi : Int} {r : Int × Nat} (h : u_nr f n lo hi p = .inr r) : lo ≤ r.1 ∧ r.1 ≤ hi ∧ u_nk f n lo hi p = 0 ∧ r.1 = u_nv f n p ∧ r.2 = u_np f n p := by
  unfold u_nr at h
  split at h
  · rename_i hz
    cases h
    exact ⟨(u_nv_b hz).1, (u_nv_b hz).2, hz, rfl, rfl⟩
  · cases h
theorem u_nr_ne {f : Nat → Int} {n p : Nat} {lo hi : Int} {r : Int × Int} (h : u_nr f n lo hi p = .inl r) : r.1 ≠ 0 ∧ 0 ≤ r.1 ∧ r.1 ≤ 2 := by
  unfold u_nr at h
  have := u_nk_b (f := f) (n := n) (lo := lo) (hi := hi) (p := p)
  split at h
  · cases h
  · rename_i hz
    cases h
    exact ⟨hz, this⟩
theorem u_wy_ok {f : Nat → Int} {n H t : Nat} : ∀ (k p x : Nat) (w w' : List Nat), w.length + k = 13 → u_wi t H x w → u_wy f n H k p x w = .inr w' → w'.Nodup ∧ (∀ h ∈ w', h < H ∧ t.testBit h = false) ∧ 3 ≤ w'.length ∧ w'.length ≤ 12
  | 0, p, x, w, w', hk, hi, h => by
    have := u_wi_12 hi
    omega
  | k + 1, p, x, w, w', hk, hi, h => by
    rw [u_wy] at h
    split at h
    · split at h
      · cases h
        exact ⟨hi.2.2.1, hi.2.2.2.1, by assumption, u_wi_12 hi⟩
      · cases h
    · split at h
      · cases h
      · rename_i y hy
        split at h
        · cases h
        · rename_i hb
          obtain ⟨y1, y2, _⟩ := u_nr_ok hy
          have hH := hi.1
          exact u_wy_ok k y.2 _ _ w' (by rw [List.length_append, List.length_singleton]; omega) (u_wi_add hi (by omega) (by cases q : x.testBit y.1.toNat; rfl; exact absurd q hb)) h
section Way
variable {sp : Nat → Nat} {ph : Bool} {d : Nat} {m : y_m} {f : Nat → Int} {n p : Nat} {e q lo hi : Int} {L R A B t lw X : Nat}
theorem s_28t (h : u_TP m f n p e q) (hlo : -1000000 ≤ lo ∧ lo ≤ 1000000) (hhi : -1000000 ≤ hi ∧ hi ≤ 1000000) (hk : u_nk f n lo hi p = 0) : ∃ m', y_V sp ph (d + 4) 28 [y_bo 6 0 1, y_bi lo, y_bi hi] m = y_rI (u_nv f n p) m' ∧ q_F u_tf m m' ∧ u_TP m' f n (u_np f n p) e q ∧ y_mI m' 1 4 = (u_sc u_bl f n p : Nat) := by
  obtain ⟨m1, a1, a2, a3, a4⟩ := s_25 (sp := sp) (ph := ph) (d := d) h
  have cb := u_c_b (p := u_sc u_bl f n p) h.1
  have s24 := s_24 (sp := sp) (ph := ph) (d := d + 1) a3
  have s26 := s_26 (sp := sp) (ph := ph) (d := d + 2) (m := m1) cb.1 cb.2
  have nb := u_nv_b hk
  unfold u_nk at hk
  unfold u_np
  unfold u_nv at nb ⊢
  obtain ⟨m2, b1, b2, b3, b4⟩ := l_28 (sp := sp) (ph := ph) (d := d + 1) (lo := lo) (hi := hi) (n - u_sc u_bl f n p) (u_sc u_bl f n p) 0 m1 (by have := a3.2.1; omega) a3 a4 (by omega) (by omega)
  have vb := u_dw_b (f := f) (n := n) (p := u_sc u_bl f n p) (v := 0) (by omega) (by omega)
  refine ⟨m2, ?_, q_F_trans a2 b2, b3, b4⟩
  rw [y_C_28, y_E_28_0, a1, e_bV, s24, e_bI, s26, e_bI]
  cases c : u_di (u_c f n (u_sc u_bl f n p))
  · rw [if_pos c] at hk; cases hk
  · rw [if_pos (by decide), y_E_28_21]
    have b1' : y_R sp ph (d + 3) 28 23 [some (y_bo 6 0 1), some (y_bi lo), some (y_bi hi), some (y_bi 0)] [] m1 = _ := b1
    rw [b1', y_E_28_75, z_w_id (by omega) (by omega), z_w_id (by omega) (by omega), z_w_id (by omega) (by omega), if_neg (by omega), if_pos (by omega), y_E_28_92]
end Way
