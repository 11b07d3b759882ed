/-! ===== the reference: sums set against each other, cut ===== -/
def q_isF (r : Nat) (F : Int) : Prop := 0 ≤ F ∧ F * F ≤ r * 100 ^ 220 ∧ (r : Int) * 100 ^ 220 < (F + 1) * (F + 1)
noncomputable def q_Fv (r : Nat) : Int := Classical.epsilon (fun F : Int => q_isF r F)
theorem q_isF_un {r : Nat} {F G : Int} (h : q_isF r F) (g : q_isF r G) : F = G := by
  have key : ∀ x y : Int, q_isF r x → q_isF r y → ¬ x < y := by
    intro x y hx hy hlt
    have : (x + 1) * (x + 1) ≤ y * y := Int.mul_le_mul (by omega) (by omega) (by have := hx.1; omega) (by have := hy.1; omega)
    have h1 := hx.2.2
    have h2 := hy.2.1
    omega
  have a := key F G h g
  have b := key G F g h
  omega
theorem q_Fv_eq {r : Nat} {F : Int} (h : q_isF r F) : q_Fv r = F :=
  q_isF_un (Classical.epsilon_spec (p := fun F : Int => q_isF r F) ⟨F, h⟩) h
noncomputable def q_Y (pull : Bool) (A B k : Nat) : Int := if pull then A * q_Fv (q_r A B k) / (q_r A B k : Nat) else q_Fv (q_r A B k)
noncomputable def q_vv (pull : Bool) (A B : Nat) (D : Nat → Int) : Int := D 0 * 1000000000000 + (D 1 * (q_Y pull A B 1 / 10 ^ 208) + (D 2 * (q_Y pull A B 2 / 10 ^ 208) + (D 3 * (q_Y pull A B 3 / 10 ^ 208) + (D 4 * (q_Y pull A B 4 / 10 ^ 208) + (D 5 * (q_Y pull A B 5 / 10 ^ 208) + 0)))))
noncomputable def q_NN (pull : Bool) (A B : Nat) (D : Nat → Int) : Int := D 0 * 10 ^ 220 + (D 1 * q_Y pull A B 1 + D 2 * q_Y pull A B 2 + D 3 * q_Y pull A B 3 + D 4 * q_Y pull A B 4 + D 5 * q_Y pull A B 5)
noncomputable def q_sn (pull : Bool) (A B : Nat) (D : Nat → Int) : Int := if 1000 < q_vv pull A B D then 1 else if q_vv pull A B D < -1000 then -1 else if q_nt pull A (q_P A B) (q_Fr A B) D 5 1 then 0 else if q_NN pull A B D < 0 then -1 else 1
/-- all roots of a boot lie in the reference -/
def q_RR (m : y_m) (A B : Nat) : Prop := 1 ≤ A ∧ A ≤ 99 ∧ B ≤ 99 ∧ y_mI m 52 2 = A ∧ ∀ k, 1 ≤ k → k < 6 → q_rt m k A (q_r A B k)
theorem q_r_lt {A B k : Nat} (hA : A ≤ 99) (hB : B ≤ 99) (hk : k < 6) : q_r A B k ≤ 254826 := by
  have h1 : A * A ≤ 99 * 99 := Nat.mul_le_mul hA hA
  have h2 : k * k ≤ 5 * 5 := Nat.mul_le_mul (by omega) (by omega)
  have h3 : k * k * B ≤ 5 * 5 * 99 := Nat.mul_le_mul h2 hB
  have h4 : k * k * B * B ≤ 5 * 5 * 99 * 99 := Nat.mul_le_mul h3 hB
  unfold q_r
  omega
theorem q_r_pos {A B k : Nat} (hA : 1 ≤ A) : 0 < q_r A B k := by
  have : 0 < A * A := Nat.mul_pos hA hA
  unfold q_r; omega
theorem q_r_A {A B k : Nat} (hA : 1 ≤ A) : A ≤ q_r A B k := by
  have : A * 1 ≤ A * A := Nat.mul_le_mul_left A hA
  unfold q_r; omega
theorem q_P_b {A B k : Nat} (h1 : 1 ≤ A) (hA : A ≤ 99) (hB : B ≤ 99) (hk : k < 6) : 1 ≤ q_P A B k ∧ q_P A B k ≤ 504 ∧ q_Fr A B k < 1000000 ∧ 1 ≤ q_Fr A B k := by
  have hr := q_r_lt hA hB hk
  have hr0 := q_r_pos (B := B) (k := k) h1
  obtain ⟨a, b, c⟩ := q_sf_pos 1000000 2 (q_r A B k) 1 (by decide) hr0 (by decide) (by omega)
  have e1 : (q_sf 1000000 2 (q_r A B k) 1).1 = q_Fr A B k := rfl
  have e2 : (q_sf 1000000 2 (q_r A B k) 1).2 = q_P A B k := rfl
  rw [e1, e2] at c
  rw [e1] at a
  rw [e2] at b
  have c1 : 1 * (q_P A B k * q_P A B k) ≤ q_Fr A B k * (q_P A B k * q_P A B k) := Nat.mul_le_mul_right _ a
  have c2 : q_Fr A B k * 1 ≤ q_Fr A B k * (q_P A B k * q_P A B k) := Nat.mul_le_mul_left _ (Nat.mul_pos b b)
  refine ⟨b, ?_, by omega, a⟩
  rcases Nat.lt_or_ge (q_P A B k) 505 with q | q
  · omega
  · have := Nat.mul_le_mul q q; omega
theorem q_F_b {r : Nat} {F : Int} (hr : r ≤ 254826) (h : q_isF r F) : F < 1000 * 10 ^ 220 := by
  obtain ⟨d3, d4, d5⟩ := h
  rcases Int.lt_or_le F (1000 * 10 ^ 220) with q | q
  · exact q
  · have := Int.mul_le_mul q q (Int.mul_nonneg (by decide) (Int.le_of_lt (n_pow_pos _))) d3
    have e9 : (1000 : Int) * 10 ^ 220 * (1000 * 10 ^ 220) = 1000000 * 100 ^ 220 := by decide
    have e8 : (r : Int) * 100 ^ 220 ≤ 999999 * 100 ^ 220 := Int.mul_le_mul_of_nonneg_right (by omega) (Int.le_of_lt (Int.pow_pos (by decide)))
    have e7 : (999999 : Int) * 100 ^ 220 < 1000000 * 100 ^ 220 := by decide
    rw [e9] at this
    exact absurd (Int.lt_of_le_of_lt (Int.le_trans this d4) (Int.lt_of_le_of_lt e8 e7)) (Int.lt_irrefl _)
/-- what the digits say -/
theorem q_RR_Y {m : y_m} {A B k : Nat} (h : q_RR m A B) (h1 : 1 ≤ k) (h2 : k < 6) (pull : Bool) : q_XV m pull k 228 = q_Y pull A B k ∧ (if pull then y_mJ m 72 k else y_mJ m 71 k) = q_Y pull A B k / 10 ^ 208 ∧ 0 ≤ q_Y pull A B k ∧ q_Y pull A B k < 1000 * 10 ^ 220 ∧ q_dig (y_mI m (77 + k)) 228 ∧ q_dig (y_mI m (84 + k)) 228 ∧ y_mI m 74 k = q_P A B k ∧ y_mI m 75 k = q_Fr A B k := by
  obtain ⟨hA, hA', hB, -, hh⟩ := h
  obtain ⟨F, a1, a2, a3, a4, a5, a6, a7, a8, a9, a10, a11, a12⟩ := hh k h1 h2
  have hr := q_r_lt hA' hB h2
  have hr0 := q_r_pos (B := B) (k := k) hA
  have hrA := q_r_A (B := B) (k := k) hA
  have eF : q_Fv (q_r A B k) = F := q_Fv_eq ⟨a1, a2, a3⟩
  have bF := q_F_b hr ⟨a1, a2, a3⟩
  have dv : ∀ f : Nat → Int, q_dig f 228 → q_B10 f 20 = q_B10 f 228 / 10 ^ 208 := by
    intro f hf
    have := q_B10_div (f := f) (n := 20) 208 (fun i x y => hf i (by omega))
    rw [show 20 + 208 = 228 from rfl] at this
    have hp := n_pow_pos 208
    refine (Int.le_antisymm ?_ ?_)
    · exact (Int.le_ediv_iff_mul_le hp).mpr this.1
    · have : q_B10 f 228 / 10 ^ 208 < q_B10 f 20 + 1 := Int.ediv_lt_of_lt_mul hp (by rw [Int.add_mul, Int.one_mul]; exact this.2)
      omega
  have c0 : 0 ≤ (A : Int) * F / (q_r A B k : Nat) := Int.ediv_nonneg (Int.mul_nonneg (by omega) a1) (by omega)
  have c1 : (A : Int) * F / (q_r A B k : Nat) ≤ F := by
    have : (A : Int) * F ≤ F * (q_r A B k : Nat) := by
      rw [Int.mul_comm]
      exact Int.mul_le_mul_of_nonneg_left (by omega) a1
    exact Int.ediv_le_of_le_mul (by omega) this
  unfold q_XV q_Y
  rw [eF]
  cases pull
  · refine ⟨a8, ?_, a1, bF, a7, a9, a5, a6⟩
    show y_mJ m 71 k = F / 10 ^ 208
    rw [a11, dv _ a7, a8]
  · refine ⟨a10, ?_, c0, Int.lt_of_le_of_lt c1 bF, a7, a9, a5, a6⟩
    show y_mJ m 72 k = _
    rw [a12, dv _ a9, a10]; rfl
section Cut
variable {sp : Nat → Nat} {ph : Bool} {d : Nat} {m : y_m} {A B : Nat}
/-- the sum laid -/
def q_sum (m : y_m) (D : Nat → Int) : Prop := y_mI m 92 0 = D 0 ∧ -30000 ≤ D 0 ∧ D 0 ≤ 30000 ∧ ∀ k, 1 ≤ k → k < 6 → y_mI m 92 k = D k ∧ -24 ≤ D k ∧ D k ≤ 24
theorem q_sum_pb {D : Nat → Int} (h : q_RR m A B) (hs : q_sum m D) : q_pb m D :=
  ⟨hs.1, hs.2.1, hs.2.2.1, fun k a b => ⟨(hs.2.2.2 k a b).1, (hs.2.2.2 k a b).2.1, (hs.2.2.2 k a b).2.2, (q_RR_Y h a b true).2.2.2.2.1, (q_RR_Y h a b true).2.2.2.2.2.1⟩⟩
theorem q_pn_Y {D : Nat → Int} (h : q_RR m A B) (pull : Bool) : D 0 * 10 ^ 220 + q_pn m pull D 228 = q_NN pull A B D := by
  unfold q_pn q_NN
  rw [(q_RR_Y h (by decide) (by decide) pull (k := 1)).1, (q_RR_Y h (by decide) (by decide) pull (k := 2)).1, (q_RR_Y h (by decide) (by decide) pull (k := 3)).1, (q_RR_Y h (by decide) (by decide) pull (k := 4)).1, (q_RR_Y h (by decide) (by decide) pull (k := 5)).1]
theorem t_217' {D : Nat → Int} {pull : Bool} (h : q_RR m A B) (hs : q_sum m D) : ∃ m', y_V sp ph (d + 2) 217 [y_bo 11 0 49, y_bi (n_b pull)] m = y_rI (q_sn pull A B D) m' ∧ q_F (fun a _ => a = 93) m m' := by
  have hA := h.1
  have hA' := h.2.1
  have hB := h.2.2.1
  have dd : ∀ (x : Int), 0 ≤ x → x < 1000 * 10 ^ 220 → 0 ≤ x / 10 ^ 208 ∧ x / 10 ^ 208 ≤ 1000000000000000 := by
    intro x h0 h1
    have hp := n_pow_pos 208
    refine ⟨Int.ediv_nonneg h0 (Int.le_of_lt hp), ?_⟩
    have : x / 10 ^ 208 < 1000000000000000 := Int.ediv_lt_of_lt_mul hp (Int.lt_of_lt_of_le h1 (by decide))
    omega
  obtain ⟨m', a1, a2, -⟩ := t_217 (sp := sp) (ph := ph) (d := d) (A := A) (P := q_P A B) (Fr := q_Fr A B) (D := D) (pull := pull) (m := m) ⟨hA', h.2.2.2.1, hs.1, hs.2.1, hs.2.2.1, fun k a b => by
      have y := q_RR_Y h a b true
      have p := q_P_b (B := B) (k := k) hA hA' hB b
      have z := hs.2.2.2 k a b
      exact ⟨y.2.2.2.2.2.2.1, y.2.2.2.2.2.2.2, z.1, p.1, p.2.1, p.2.2.1, z.2.1, z.2.2⟩⟩ (q_sum_pb h hs) (fun k a b => by
      have y := q_RR_Y h a b true
      have z := q_RR_Y h a b false
      have y2 : y_mJ m 72 k = _ := y.2.1
      have z2 : y_mJ m 71 k = _ := z.2.1
      have b1 := dd _ y.2.2.1 y.2.2.2.1
      have b2 := dd _ z.2.2.1 z.2.2.2.1
      rw [y2, z2]
      exact ⟨b2.1, b2.2, b1.1, b1.2⟩)
  refine ⟨m', ?_, a2⟩
  rw [a1]
  have e : q_sg m pull A (q_P A B) (q_Fr A B) D = q_sn pull A B D := by
    unfold q_sg q_sn
    have ev : q_sv m pull D = q_vv pull A B D := by
      unfold q_sv q_vv
      rw [q_S_15, (q_RR_Y h (by decide) (by decide) pull (k := 1)).2.1, (q_RR_Y h (by decide) (by decide) pull (k := 2)).2.1, (q_RR_Y h (by decide) (by decide) pull (k := 3)).2.1, (q_RR_Y h (by decide) (by decide) pull (k := 4)).2.1, (q_RR_Y h (by decide) (by decide) pull (k := 5)).2.1]
    rw [ev, q_pn_Y h pull]
  rw [e]
theorem q_RR_F {S : Nat → Nat → Prop} {m' : y_m} (h : q_RR m A B) (hf : q_F S m m') (h1 : ∀ a j, S a j → ¬ (q_wr a) ∧ (a ≠ 52 ∨ j ≠ 2)) : q_RR m' A B := by
  have w : ∀ a, q_wr a → ∀ j, ¬ S a j := fun a ha j hs => (h1 a j hs).1 ha
  obtain ⟨a1, a2, a3, a4, a5⟩ := h
  refine ⟨a1, a2, a3, ?_, fun k x y => ?_⟩
  · rw [q_F_I hf 52 2 (fun hs => (h1 52 2 hs).2.elim (fun q => q rfl) (fun q => q rfl))]; exact a4
  · exact q_rt_F (a5 k x y) hf (w 71 (by unfold q_wr; omega) k) (w 72 (by unfold q_wr; omega) k) (w 73 (by unfold q_wr; omega) k) (w 74 (by unfold q_wr; omega) k) (w 75 (by unfold q_wr; omega) k) (w (77 + k) (by unfold q_wr; omega)) (w (84 + k) (by unfold q_wr; omega))
/-- a code read -/
def q_dec (pull : Bool) (c k : Nat) : Int := if k = 0 then (if pull then ((c / 16 ^ 0 % 16 : Nat) : Int) else ((c / 16777216 : Nat) : Int)) else ((c / 16 ^ k % 16 : Nat) : Int)
def q_df (pull : Bool) (x y k : Nat) : Int := q_dec pull x k - q_dec pull y k
theorem q_dec_b (pull : Bool) {c k : Nat} (hk : 1 ≤ k) : 0 ≤ q_dec pull c k ∧ q_dec pull c k ≤ 15 := by
  unfold q_dec
  rw [if_neg (by omega)]
  have := Nat.mod_lt (c / 16 ^ k) (show 0 < 16 by decide)
  omega
theorem q_dec_0 (pull : Bool) {c : Nat} (hc : c < 167772160000) : 0 ≤ q_dec pull c 0 ∧ q_dec pull c 0 < 10000 := by
  unfold q_dec
  rw [if_pos rfl]
  have := Nat.mod_lt (c / 16 ^ 0) (show 0 < 16 by decide)
  split <;> omega
theorem l_218 {x y : Nat} {pull : Bool} (hx : x < 167772160000) (hy : y < 167772160000) : ∀ (n k : Nat) (m : y_m), k + n = 6 → 1 ≤ k → ∃ m', y_R sp ph (d + 1) 218 37 [some (y_bo 11 0 49), some (y_bl (x : Int)), none, some (y_bl (y : Int)), none, some (y_bi (n_b pull)), some (y_bi (k : Int))] [] m = y_R sp ph (d + 1) 218 69 [some (y_bo 11 0 49), none, none, none, none, some (y_bi (n_b pull)), none] [] m' ∧ q_F (fun a j => a = 92 ∧ k ≤ j) m m' ∧ ∀ j, k ≤ j → j < 6 → y_mI m' 92 j = q_df pull x y j := by
  intro n
  induction n with
  | zero =>
    intro k m hk h1
    refine ⟨m, ?_, q_F_refl, fun j a b => absurd b (by omega)⟩
    rw [y_E_218_37]
    simp (disch := omega) only [z_w_id, if_pos, if_neg, e_g, e_bI, e_bV, e_bL, e_II, e_II', e_IJ, e_JI, e_JJ, e_JJ', reduceIte, not_true_eq_false, not_false_eq_true, true_or, or_true, true_and, and_true, e_nb0, e_gT]
  | succ n ih =>
    intro k m hk h1
    obtain ⟨m', r1, r2, r3⟩ := ih (k + 1) (y_sI m 92 k (((x / 16 ^ k % 16 : Nat) : Int) - ((y / 16 ^ k % 16 : Nat) : Int))) (by omega) (by omega)
    refine ⟨m', ?_, q_F_trans (q_F_sI ⟨rfl, Nat.le_refl _⟩) (q_F_mono r2 (fun a j q => ⟨q.1, by omega⟩)), fun j a b => ?_⟩
    · rw [y_E_218_37]
      simp (disch := omega) only [z_w_id, if_pos, if_neg, e_g, e_bI, e_bV, e_bL, e_II, e_II', e_IJ, e_JI, e_JJ, e_JJ', reduceIte, not_true_eq_false, not_false_eq_true, true_or, or_true, true_and, and_true, e_nb0, e_gT, Int.toNat_natCast, t_214]
      exact r1
    · by_cases q : j = k
      · subst q
        rw [q_F_I r2 92 j (by omega), e_II]
        unfold q_df q_dec
        rw [if_neg (by omega), if_neg (by omega)]
      · exact r3 j (by omega) b
theorem t_218 {x y : Nat} {pull : Bool} (h : q_RR m A B) (hx : x < 167772160000) (hy : y < 167772160000) : ∃ m', y_V sp ph (d + 3) 218 [y_bo 11 0 49, y_bl (x : Int), y_bl (y : Int), y_bi (n_b pull)] m = y_rI (q_sn pull A B (q_df pull x y)) m' ∧ q_F (fun a _ => a = 92 ∨ a = 93) m m' := by
  have d0 := q_dec_0 pull hx
  have d1 := q_dec_0 pull hy
  obtain ⟨m1, a1, a2, a3⟩ := l_218 (sp := sp) (ph := ph) (d := d + 1) (pull := pull) hx hy 5 1 (y_sI m 92 0 (q_dec pull x 0 - q_dec pull y 0)) (by omega) (by omega)
  have f1 : q_F (fun a _ => a = 92 ∨ a = 93) m m1 := q_F_trans (q_F_sI (Or.inl rfl)) (q_F_mono a2 (fun a j q => Or.inl q.1))
  have hw : ∀ a (j : Nat), (a = 92 ∨ a = 93) → ¬ (q_wr a) ∧ (a ≠ 52 ∨ j ≠ 2) := by unfold q_wr; omega
  obtain ⟨m2, b1, b2⟩ := t_217' (sp := sp) (ph := ph) (d := d) (D := q_df pull x y) (pull := pull) (q_RR_F h f1 hw) ⟨by
      rw [q_F_I a2 92 0 (by omega), e_II, q_df], by unfold q_df; omega, by unfold q_df; omega, fun k a b => ⟨a3 k a b, by
      have := q_dec_b pull (c := x) a
      have := q_dec_b pull (c := y) a
      unfold q_df
      omega, by
      have := q_dec_b pull (c := x) a
      have := q_dec_b pull (c := y) a
      unfold q_df
      omega⟩⟩
  refine ⟨m2, ?_, q_F_trans f1 (q_F_mono b2 (fun a j q => Or.inr q))⟩
  have a1' : y_R sp ph (d + 2) 218 37 [some (y_bo 11 0 49), some (y_bl (x : Int)), none, some (y_bl (y : Int)), none, some (y_bi (n_b pull)), some (y_bi 1)] [] (y_sI m 92 0 (q_dec pull x 0 - q_dec pull y 0)) = _ := a1
  have t0 : ∀ c : Nat, c < 167772160000 → y_V sp ph (d + 1 + 1) 214 [y_bl (c : Int), y_bi 0] m = y_rI ((c / 16 ^ 0 % 16 : Nat) : Int) m := fun c hc => t_214 (k := 0) (by omega) (by decide)
  simp only [y_C_218, y_E_218_0, e_nb0]
  cases pull with
  | true =>
    simp (disch := omega) only [z_w_id, if_pos, if_neg, e_g, e_bI, e_bV, e_bL, e_II, e_II', e_IJ, e_JI, e_JJ, e_JJ', reduceIte, not_true_eq_false, not_false_eq_true, true_or, or_true, true_and, and_true, e_nb0, e_gT, Int.toNat_natCast, t0, y_E_218_33, Bool.true_eq_false]
    have a1'' : y_R sp ph (d + 2) 218 37 [some (y_bo 11 0 49), some (y_bl (x : Int)), none, some (y_bl (y : Int)), none, some (y_bi (n_b true)), some (y_bi 1)] [] (y_sI m 92 0 (((x / 16 ^ 0 % 16 : Nat) : Int) - ((y / 16 ^ 0 % 16 : Nat) : Int))) = _ := a1'
    erw [a1'']
    simp only [y_E_218_69, b1, e_bI]
  | false =>
    simp (disch := omega) only [z_w_id, if_pos, if_neg, e_g, e_bI, e_bV, e_bL, e_II, e_II', e_IJ, e_JI, e_JJ, e_JJ', reduceIte, not_true_eq_false, not_false_eq_true, true_or, or_true, true_and, and_true, e_nb0, e_gT, Int.toNat_natCast, t_213, y_E_218_24, y_E_218_33]
    have a1'' : y_R sp ph (d + 2) 218 37 [some (y_bo 11 0 49), some (y_bl (x : Int)), none, some (y_bl (y : Int)), none, some (y_bi (n_b false)), some (y_bi 1)] [] (y_sI m 92 0 (((x / 16777216 : Nat) : Int) - ((y / 16777216 : Nat) : Int))) = _ := a1'
    erw [a1'']
    simp only [y_E_218_69, b1, e_bI]
/-- isBetter -/
noncomputable def q_bt (A B what x y : Nat) : Bool := if what = 0 then decide (q_sn false A B (q_df false x y) < 0) else if what = 2 then decide (0 < q_sn true A B (q_df true x y)) else decide (0 < q_sn false A B (q_df false x y))
theorem q_sn_b (pull : Bool) (A B : Nat) (D : Nat → Int) : -1 ≤ q_sn pull A B D ∧ q_sn pull A B D ≤ 1 := by
  unfold q_sn; repeat' split
  all_goals omega
theorem t_219 {x y what : Nat} (h : q_RR m A B) (hx : x < 167772160000) (hy : y < 167772160000) (hw : what ≤ 2) : ∃ m', y_V sp ph (d + 4) 219 [y_bo 11 0 49, y_bl (x : Int), y_bl (y : Int), y_bi (what : Int)] m = y_rI (n_b (q_bt A B what x y)) m' ∧ q_F (fun a _ => a = 92 ∨ a = 93) m m' := by
  obtain ⟨m1, a1, a2⟩ := t_218 (sp := sp) (ph := ph) (d := d) (x := x) (y := y) (pull := false) h hx hy
  obtain ⟨m2, b1, b2⟩ := t_218 (sp := sp) (ph := ph) (d := d) (x := x) (y := y) (pull := true) h hx hy
  have a1' : y_V sp ph (d + 3) 218 [y_bo 11 0 49, y_bl (x : Int), y_bl (y : Int), y_bi 0] m = _ := a1
  have b1' : y_V sp ph (d + 3) 218 [y_bo 11 0 49, y_bl (x : Int), y_bl (y : Int), y_bi 1] m = _ := b1
  have s1 := q_sn_b false A B (q_df false x y)
  have s2 := q_sn_b true A B (q_df true x y)
  unfold q_bt
  by_cases w0 : what = 0
  · refine ⟨m1, ?_, a2⟩
    simp (disch := omega) only [y_C_219, y_E_219_0, z_w_id, if_pos, if_neg, e_g, e_bI, e_bV, e_bL, e_II, e_II', e_IJ, e_JI, e_JJ, e_JJ', reduceIte, not_true_eq_false, not_false_eq_true, true_or, or_true, true_and, and_true, e_nb0, e_gT, a1', if_pos w0]
    by_cases c : q_sn false A B (q_df false x y) < 0
    · simp (disch := omega) only [z_w_id, if_pos, if_neg, e_g, e_bI, e_bV, e_bL, e_II, e_II', e_IJ, e_JI, e_JJ, e_JJ', reduceIte, not_true_eq_false, not_false_eq_true, true_or, or_true, true_and, and_true, e_nb0, e_gT, y_E_219_48]
      rw [decide_eq_true c]; rfl
    · simp (disch := omega) only [z_w_id, if_pos, if_neg, e_g, e_bI, e_bV, e_bL, e_II, e_II', e_IJ, e_JI, e_JJ, e_JJ', reduceIte, not_true_eq_false, not_false_eq_true, true_or, or_true, true_and, and_true, e_nb0, e_gT, y_E_219_19, y_E_219_48]
      rw [decide_eq_false c]; rfl
  · rw [if_neg w0]
    by_cases w2 : what = 2
    · refine ⟨m2, ?_, b2⟩
      simp (disch := omega) only [y_C_219, y_E_219_0, y_E_219_23, y_E_219_37, z_w_id, if_pos, if_neg, e_g, e_bI, e_bV, e_bL, e_II, e_II', e_IJ, e_JI, e_JJ, e_JJ', reduceIte, not_true_eq_false, not_false_eq_true, true_or, or_true, true_and, and_true, e_nb0, e_gT, b1', if_pos w2]
      by_cases c : 0 < q_sn true A B (q_df true x y)
      · simp (disch := omega) only [z_w_id, if_pos, if_neg, e_g, e_bI, e_bV, e_bL, e_II, e_II', e_IJ, e_JI, e_JJ, e_JJ', reduceIte, not_true_eq_false, not_false_eq_true, true_or, or_true, true_and, and_true, e_nb0, e_gT, y_E_219_48]
        rw [decide_eq_true c]; rfl
      · simp (disch := omega) only [z_w_id, if_pos, if_neg, e_g, e_bI, e_bV, e_bL, e_II, e_II', e_IJ, e_JI, e_JJ, e_JJ', reduceIte, not_true_eq_false, not_false_eq_true, true_or, or_true, true_and, and_true, e_nb0, e_gT, y_E_219_47, y_E_219_48]
        rw [decide_eq_false c]; rfl
    · rw [if_neg w2]
      refine ⟨m1, ?_, a2⟩
      simp (disch := omega) only [y_C_219, y_E_219_0, y_E_219_23, y_E_219_36, y_E_219_37, z_w_id, if_pos, if_neg, e_g, e_bI, e_bV, e_bL, e_II, e_II', e_IJ, e_JI, e_JJ, e_JJ', reduceIte, not_true_eq_false, not_false_eq_true, true_or, or_true, true_and, and_true, e_nb0, e_gT, a1']
      by_cases c : 0 < q_sn false A B (q_df false x y)
      · simp (disch := omega) only [z_w_id, if_pos, if_neg, e_g, e_bI, e_bV, e_bL, e_II, e_II', e_IJ, e_JI, e_JJ, e_JJ', reduceIte, not_true_eq_false, not_false_eq_true, true_or, or_true, true_and, and_true, e_nb0, e_gT, y_E_219_48]
        rw [decide_eq_true c]; rfl
      · simp (disch := omega) only [z_w_id, if_pos, if_neg, e_g, e_bI, e_bV, e_bL, e_II, e_II', e_IJ, e_JI, e_JJ, e_JJ', reduceIte, not_true_eq_false, not_false_eq_true, true_or, or_true, true_and, and_true, e_nb0, e_gT, y_E_219_47, y_E_219_48]
        rw [decide_eq_false c]; rfl
end Cut
