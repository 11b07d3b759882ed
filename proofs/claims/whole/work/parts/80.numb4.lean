theorem c_pk_in {f : Nat → Int} : ∀ (n h : Nat) (left : Int), 0 ≤ left → left < q_S f h n → (c_pk f n h left).1 < h + n := by
  intro n
  induction n with
  | zero => intro h left h0 hl; rw [q_S] at hl; omega
  | succ n ih =>
    intro h left h0 hl
    rw [c_pk]
    rw [q_S] at hl
    by_cases c : left < f h
    · rw [if_pos c]; simp
    · rw [if_neg c]
      have := ih (h + 1) (left - f h) (by omega) (by omega)
      omega
theorem c_un2_some {L lw s sec : Nat} {first : Bool} : ∀ (n last : Nat) (i : Bool) (rest : Nat) (left : Int), rest < 4096 → n_pop rest = n → 0 ≤ left → left < c_N L lw s sec first n last i rest → ∃ t, c_un2 L lw s sec first n last i rest left = some t ∧ t.length = n := by
  intro n
  induction n with
  | zero => intro last i rest left _ _ _ _; exact ⟨[], rfl, rfl⟩
  | succ n ih =>
    intro last i rest left hr hn h0 hl
    have e := c_N_f2 (L := L) (lw := lw) (s := s) (sec := sec) (first := first) (now := last) (rest := rest) (i := i) (by omega)
    rw [hn] at e
    rw [e] at hl
    have hin := c_pk_in 12 0 left h0 hl
    have pb := c_pk_b (f := c_f2 L lw s sec first rest last i) (fun j => (c_f2_b hr j).1) 12 0 left h0
    rw [c_un2]
    generalize he : c_pk (c_f2 L lw s sec first rest last i) 12 0 left = p at *
    obtain ⟨h, l⟩ := p
    dsimp only at *
    rw [if_pos (by omega)]
    have hlt := pb.2.2.2.2 hin
    unfold c_f2 at hlt
    by_cases q : rest.testBit h = true ∧ r_may lw i (r_x L last h) = true
    · rw [if_pos q] at hlt
      have hp := n_pop_rm hr q.1
      rw [hn, Nat.add_sub_cancel] at hlt
      obtain ⟨t, e1, e2⟩ := ih h (r_x L last h) (w_rm rest h) l (Nat.lt_of_le_of_lt (w_rm_le _ _) hr) (by omega) pb.1 hlt
      exact ⟨h :: t, by rw [e1]; rfl, by simp; omega⟩
    · rw [if_neg q] at hlt; omega
theorem c_un1_some {L lw S : Nat} {left : Int} (hS : S < 4096) (hS2 : 2 ≤ n_pop S) (h0 : 0 ≤ left) (hl : left < c_cnt L lw S) : ∃ t, c_un1 L lw (n_low S) (w_rm S (n_low S)) left = some t := by
  have hS0 : 0 < S := by
    rcases Nat.eq_zero_or_pos S with q | q
    · rw [q, show n_pop 0 = 0 from by decide] at hS2; omega
    · exact q
  have lo := w_low hS hS0
  have hr := w_rm_low hS
  have hin := c_pk_in 12 0 left h0 hl
  have pb := c_pk_b (f := c_f1 L lw (n_low S) (w_rm S (n_low S))) (fun j => (c_f1_b hr j).1) 12 0 left h0
  unfold c_un1
  generalize w_rm S (n_low S) = rest at *
  generalize n_low S = s at *
  generalize he : c_pk (c_f1 L lw s rest) 12 0 left = p at *
  obtain ⟨h, l⟩ := p
  dsimp only at *
  rw [if_pos (by omega)]
  have hlt := pb.2.2.2.2 hin
  unfold c_f1 at hlt
  by_cases q : rest.testBit h = true
  · rw [if_pos q] at hlt
    have hp := n_pop_rm hr q
    obtain ⟨t, e1, e2⟩ := c_un2_some (n_pop rest - 1) h (r_x L s h) (w_rm rest h) l (Nat.lt_of_le_of_lt (w_rm_le _ _) hr) (by omega) pb.1 hlt
    exact ⟨h :: t, by rw [e1]; rfl⟩
  · rw [if_neg q] at hlt; omega
def c_P3 (x k : Nat) : Prop := c_Pa 20 x k ∨ (x = 23 ∧ k = 1) ∨ x = 24
section Numb
variable {sp : Nat → Nat} {ph : Bool} {d : Nat} {m : y_m} {a b c L R A B t lw X s sec : Nat} {first : Bool} {w : List Nat}
theorem c_Ws_F {P : Nat → Nat → Prop} {m m' : y_m} (h : c_Ws m) (hF : q_F P m m') (h6 : ¬ P 6 1) (h7 : ∀ k, ¬ P 7 k) : c_Ws m' := by
  rcases h with q | ⟨lw, q1, q2, q3⟩
  · exact Or.inl (by rw [q_F_I hF 6 1 h6]; exact q)
  · exact Or.inr ⟨lw, q1, by rw [q_F_I hF 6 1 h6]; exact q2, fun i hi => by rw [q_F_J hF 7 i (h7 i)]; exact q3 i hi⟩
theorem s_147 {x left : Int} (hK : c_K m L R A B t lw X w) (hWs : c_Ws m) (hx : c_rd L R t x) (h0 : -2147483648 ≤ x) (h1 : x < 2147483648) (hl0 : -9223372036854775808 ≤ left) (hl1 : left < 9223372036854775808) : (∀ u, 0 ≤ left → c_un1 L lw (n_low x.toNat) (w_rm x.toNat (n_low x.toNat)) left = some u → ∃ m', y_V sp ph (d + 7) 147 [y_bo 10 0 0, y_bi x, y_bl left] m = y_rI ((u.length : Int) + 1) m' ∧ q_F c_P3 m m' ∧ c_Ws m' ∧ q_W m' 23 (n_low x.toNat :: u)) ∧ ((left < 0 ∨ c_un1 L lw (n_low x.toNat) (w_rm x.toNat (n_low x.toNat)) left = none) → ∃ m', y_V sp ph (d + 7) 147 [y_bo 10 0 0, y_bi x, y_bl left] m = y_rI (-1) m' ∧ q_F c_P3 m m' ∧ c_Ws m' ∧ q_W m' 23 w) := by
  have s172 := (s_172 (sp := sp) (ph := ph) (d := d + 3) hK.eL hK.eR hK.et hK.l6 hK.r6 hK.t4 h0 h1).1 hx
  have hlt := c_rd_lt hK.l6 hK.r6 hx.2.1
  obtain ⟨n, hn⟩ : ∃ n : Nat, x = n := ⟨x.toNat, by have := hx.1; omega⟩
  subst hn
  rw [Int.toNat_natCast] at *
  obtain ⟨m1, a1, a2, a3, a4⟩ := s_147x (sp := sp) (ph := ph) (d := d) (n := n) hK hWs (n_bd_0.mp hx.2.1) hlt hx.2.2 hl0 hl1
  have hF1 : q_F c_P3 m m1 := q_F_mono a2 (fun x k h => Or.inl h)
  constructor
  · intro u hu0 hu
    rw [if_pos ⟨hu0, by rw [hu]; rfl⟩] at a1
    obtain ⟨m2, b1, b2, b3⟩ := s_173 (sp := sp) (ph := ph) (d := d + 2) (List.cons_ne_nil _ _) (a4 u hu0 hu)
    refine ⟨m2, ?_, q_F_trans hF1 (q_F_mono b2 (fun x k h => Or.inr h)), c_Ws_F a3 b2 (by omega) (by omega), b3⟩
    simp (disch := omega) only [y_C_147, y_E_147_0, y_E_147_32, y_E_147_33, z_w_id, if_pos, if_neg, e_g, e_bI, e_bV, e_bL, e_II, e_II', e_IJ, e_JI, e_JJ, e_JJ', reduceIte, not_true_eq_false, not_false_eq_true, true_or, or_true, true_and, and_true, e_nb0, e_gT, s172, a1, b1]
    rw [List.length_cons, Int.natCast_add]; rfl
  · intro hu
    have hneg : ¬ (0 ≤ left ∧ (c_un1 L lw (n_low n) (w_rm n (n_low n)) left).isSome = true) := by
      rintro ⟨q1, q2⟩
      rcases hu with q | q
      · omega
      · rw [q] at q2; cases q2
    rw [if_neg hneg] at a1
    refine ⟨m1, ?_, hF1, a3, q_W_F hK.W a2 (by unfold c_Pa c_P; omega) (by unfold c_Pa c_P; omega)⟩
    simp (disch := omega) only [y_C_147, y_E_147_0, y_E_147_32, y_E_147_33, z_w_id, if_pos, if_neg, e_g, e_bI, e_bV, e_bL, e_II, e_II', e_IJ, e_JI, e_JJ, e_JJ', reduceIte, not_true_eq_false, not_false_eq_true, true_or, or_true, true_and, and_true, e_nb0, e_gT, s172, a1]
end Numb
