/-! ===== class and reference speak of the same rounds ===== -/
section Comb
variable {L R A B lw what T t : Nat}
theorem m_kd_x (h : lw ≠ 0) : m_kd lw L = r_x L := by
  funext a b
  unfold m_kd
  rw [if_neg h]
theorem m_RD_rx {E : List (Nat × Nat)} : m_RD lw L T E ↔ m_rx lw L T E := by
  by_cases h : lw = 0
  · subst h
    constructor
    · rintro ⟨h, E', h1, h2, h3⟩; exact ⟨h, E', h1, m_h_0 _ _ _ _ _ _ _ _ h2, h3⟩
    · rintro ⟨h, E', h1, h2, h3⟩; exact ⟨h, E', h1, m_h_0 _ _ _ _ _ _ _ _ h2, h3⟩
  · unfold m_RD m_rx
    rw [m_kd_x h]
theorem m_best_x {M : Int} {u : List Nat} (h : m_best what L A B lw T M u) : m_gr what L A B lw (r_x L) (n_low T) M (n_pop T - 1) none (n_low T) (w_rm T (n_low T)) 0 u := by
  unfold m_best at h
  by_cases q : lw = 0
  · subst q; exact m_gr_k0 _ _ _ _ _ _ _ h
  · rw [m_kd_x q] at h; exact h
/-- what a pick hole by hole gives is a round -/
theorem m_gr_rd {kd : Nat → Nat → Bool} {s : Nat} {M : Int} : ∀ (f : Nat) (md : Option (Bool × Bool)) (last rest : Nat) (pre : Int) (u : List Nat), m_gr what L A B lw kd s M (f + 1) md last rest pre u → ∃ h u', u = h :: u' ∧ rest.testBit h = true ∧ m_am lw md (kd last h) ∧ m_h lw kd s f h (kd last h) (w_rm rest h) (m_bg md (kd last h)) (m_eu s h u')
  | 0, md, last, rest, pre, u, g => by
    obtain ⟨h, u', rfl, ⟨h1, h2, E, h3, h4⟩, _, h6⟩ := g
    have : u' = [] := h6
    subst this
    refine ⟨h, [], rfl, h1, h2, ?_⟩
    obtain ⟨e1, e2, e3⟩ := h3
    exact ⟨e1, e2, rfl⟩
  | f + 1, md, last, rest, pre, u, g => by
    obtain ⟨h, u', rfl, ⟨h1, h2, E, h3, h4⟩, _, h6⟩ := g
    obtain ⟨h', u2, rfl, g1, g2, g3⟩ := m_gr_rd f _ h (w_rm rest h) _ u' h6
    exact ⟨h, h' :: u2, rfl, h1, h2, h', m_eu s h' u2, g1, g2, g3, rfl⟩
theorem m_gr_rx {M : Int} {u : List Nat} (hp : 3 ≤ n_pop T) (h : m_gr what L A B lw (r_x L) (n_low T) M (n_pop T - 1) none (n_low T) (w_rm T (n_low T)) 0 u) : m_rx lw L T (m_eu (n_low T) (n_low T) u) := by
  rw [show n_pop T - 1 = (n_pop T - 2) + 1 by omega] at h
  obtain ⟨x, u', rfl, g1, g2, g3⟩ := m_gr_rd _ _ _ _ _ _ h
  exact ⟨x, m_eu (n_low T) x u', g1, g3, rfl⟩
/-- the spans of a way, each hole once -/
theorem m_eu_h {s : Nat} : ∀ (u : List Nat) (h rest : Nat) (k b : Bool), (h :: u).Nodup → (∀ x ∈ u, rest.testBit x = true) → m_h 0 (fun _ _ => false) s u.length h k rest b (m_eu s h u)
  | [], h, rest, k, b, _, _ => ⟨rfl, rfl, rfl⟩
  | x :: u, h, rest, k, b, hn, hr => by
    obtain ⟨n1, n2⟩ := List.nodup_cons.mp hn
    obtain ⟨n3, n4⟩ := List.nodup_cons.mp n2
    refine ⟨x, m_eu s x u, hr x List.mem_cons_self, rfl, m_eu_h u x (w_rm rest x) _ _ n2 (fun y hy => ?_), rfl⟩
    rw [w_rm_bit, hr y (List.mem_cons_of_mem _ hy), decide_eq_true (show y ≠ x from fun e => n3 (by rw [← e]; exact hy))]
    rfl
theorem m_way_E {s n : Nat} {u : List Nat} (hn : (s :: u).Nodup) (h3 : 2 ≤ u.length) (hb : ∀ x ∈ s :: u, x < n) : (m_eu s s u).Nodup ∧ (∀ e ∈ m_eu s s u, e.1 < e.2 ∧ e.2 < n) ∧ (m_eu s s u).length = u.length + 1 := by
  obtain ⟨n1, n2⟩ := List.nodup_cons.mp hn
  match u, h3, n1, n2, hb with
  | x :: u, h3, n1, n2, hb =>
    have hr : m_rd 0 (fun _ _ => false) s u.length (q_bits (x :: u)) (m_eu s s (x :: u)) := by
      refine ⟨x, m_eu s x u, by rw [q_bits_bit]; exact decide_eq_true List.mem_cons_self, m_eu_h u x _ _ _ n2 (fun y hy => ?_), rfl⟩
      have hne : y ≠ x := fun e => (List.nodup_cons.mp n2).1 (by rw [← e]; exact hy)
      rw [w_rm_bit, q_bits_bit, decide_eq_true (List.mem_cons_of_mem _ hy), decide_eq_true hne]; rfl
    have := m_rd_ok (hb s List.mem_cons_self) (by simp at h3; omega) (by rw [q_bits_bit]; exact decide_eq_false n1) (fun y hy => hb y (List.mem_cons_of_mem _ (by rw [q_bits_bit] at hy; exact of_decide_eq_true hy))) hr
    exact ⟨this.1, this.2.1, by rw [this.2.2]; simp⟩
/-- sums along a way -/
theorem m_eu_S {g : Nat → Nat → Int} {G : List (Nat × Nat) → Int} (h0 : G [] = 0) (hG : ∀ a b E, G (w_e a b :: E) = g a b + G E) {w : List Nat} {s : Nat} {u0 : List Nat} (hw : w = s :: u0) : ∀ (u : List Nat) (i last : Nat), w.drop i = last :: u → i + (u.length + 1) = w.length → q_S (fun j => g (q_at w j) (q_at w ((j : Int) + 1))) i (u.length + 1) = G (m_eu s last u)
  | [], i, last, hd, hl => by
    have hi : i < w.length := by simp at hl; omega
    have e1 : q_at w (i : Int) = last := by
      rw [q_at_nat hi, List.getD_eq_getElem?_getD, List.getElem?_eq_getElem hi]
      have := List.drop_eq_getElem_cons hi
      rw [hd] at this
      exact (List.cons.inj this).1.symm
    have e2 : q_at w ((i : Int) + 1) = s := by
      have : (i : Int) + 1 = (w.length : Int) := by simp at hl; omega
      rw [this]
      unfold q_at
      rw [Int.emod_self, hw]; rfl
    show g (q_at w i) (q_at w ((i : Int) + 1)) + q_S _ (i + 1) 0 = G [w_e last s]
    rw [e1, e2, hG, h0]; rfl
  | x :: u, i, last, hd, hl => by
    have hi : i < w.length := by simp at hl; omega
    have hc := List.drop_eq_getElem_cons hi
    rw [hd] at hc
    obtain ⟨c1, c2⟩ := List.cons.inj hc
    have hi2 : i + 1 < w.length := by simp at hl; omega
    have hc2 := List.drop_eq_getElem_cons hi2
    rw [← c2] at hc2
    have e1 : q_at w (i : Int) = last := by
      rw [q_at_nat hi, List.getD_eq_getElem?_getD, List.getElem?_eq_getElem hi]
      exact c1.symm
    have e2 : q_at w ((i : Int) + 1) = x := by
      rw [show (i : Int) + 1 = ((i + 1 : Nat) : Int) by omega, q_at_nat hi2, List.getD_eq_getElem?_getD, List.getElem?_eq_getElem hi2]
      exact (List.cons.inj hc2).1.symm
    have ih := m_eu_S h0 hG hw u (i + 1) x c2.symm (by simp at hl; omega)
    show g (q_at w i) (q_at w ((i : Int) + 1)) + q_S _ (i + 1) (u.length + 1) = G (w_e last x :: m_eu s x u)
    rw [e1, e2, hG, ih]
theorem m_len_w {m : y_m} {b s : Nat} {u : List Nat} (hQ : m_Q m b L R A B lw) (hb : ∀ x ∈ s :: u, x < L + R) : q_S (q_len (y_mJ m 4) L B (s :: u)) 0 (s :: u).length = m_S 0 L A B (m_eu s s u) := by
  have e : ∀ k, k < (s :: u).length → q_len (y_mJ m 4) L B (s :: u) k = (fun (j : Nat) => (fun x y => m_w 0 L A B (w_e x y)) (q_at (s :: u) j) (q_at (s :: u) ((j : Int) + 1))) k := fun k _ => by
    have h1 := hb _ (q_at_mem (w := s :: u) (i := (k : Int)) (by simp))
    have h2 := hb _ (q_at_mem (w := s :: u) (i := (k : Int) + 1) (by simp))
    exact (r_len_Q hQ h1 h2).1
  rw [q_S_congr _ _ (fun j _ hj => e j (by omega))]
  exact m_eu_S (G := m_S 0 L A B) rfl (fun a b E => rfl) rfl u 0 s rfl (by simp)
theorem m_pul_w {m : y_m} {b s : Nat} {u : List Nat} (hQ : m_Q m b L R A B lw) (hb : ∀ x ∈ s :: u, x < L + R) : q_S (q_pul (y_mJ m 5) L (s :: u)) 0 (s :: u).length = - m_S 2 L A B (m_eu s s u) := by
  have e : ∀ k, k < (s :: u).length → q_pul (y_mJ m 5) L (s :: u) k = (fun (j : Nat) => (fun x y => w_f true L A B (w_e x y)) (q_at (s :: u) j) (q_at (s :: u) ((j : Int) + 1))) k := fun k _ => by
    have h1 := hb _ (q_at_mem (w := s :: u) (i := (k : Int)) (by simp))
    have h2 := hb _ (q_at_mem (w := s :: u) (i := (k : Int) + 1) (by simp))
    exact (r_len_Q hQ h1 h2).2
  rw [q_S_congr _ _ (fun j _ hj => e j (by omega))]
  have := m_eu_S (g := fun x y => w_f true L A B (w_e x y)) (G := w_S (w_f true L A B)) (w := s :: u) rfl (fun a b E => rfl) rfl u 0 s rfl (by simp)
  refine this.trans ?_
  rw [m_S_eq, if_pos rfl]; omega
theorem m_code_w {s : Nat} {u : List Nat} : q_S (q_code L A B (s :: u)) 0 (s :: u).length = (w_code L A B (m_eu s s u) : Int) := by
  exact m_eu_S (g := fun x y => (r_code L A B x y : Int)) (G := fun E => (w_code L A B E : Int)) (w := s :: u) rfl (fun a b E => by show ((w_code L A B (w_e a b :: E) : Nat) : Int) = _; rw [w_code_cons]; omega) rfl u 0 s rfl (by simp)
/-- a length that is cut is the same for all that are as long -/
theorem m_cut_eq {E F : List (Nat × Nat)} (hB : m_B L R A B) (hE : m_E L R E) (hF : m_E L R F) (h1 : m_S 0 L A B E ≤ m_S 0 L A B F) (h2 : m_S 0 L A B F ≤ m_S 0 L A B E + 64) : (m_S 0 L A B E + 64) * 1000 / 281474976710656 = (m_S 0 L A B F + 64) * 1000 / 281474976710656 := by
  obtain ⟨b1, b2, b3, b4, b5, b6, b7, b8⟩ := hB
  obtain ⟨v1, v2, v3, v4, v5, v6⟩ := v_boot_ok b7
  have hx := w_fx (A := A) (B := B) false b1 b2 (w_okb hF.1)
  have hS : m_S 0 L A B F = w_S (w_f false L A B) F := by rw [m_S_eq]; rfl
  obtain ⟨c0, c1, c2, c3, c4, c5⟩ := w_b b1 b2 hF.1
  have hsum : m_S 0 L A B F = (w_wh L A B F : Int) * 281474976710656 + ((w_cnt L 1 F * v_rt A B 1 + w_cnt L 2 F * v_rt A B 2 + w_cnt L 3 F * v_rt A B 3 + w_cnt L 4 F * v_rt A B 4 + w_cnt L 5 F * v_rt A B 5 : Nat) : Int) := by
    rw [hS, ← hx]
    unfold q_fx w_d
    simp only [q_cc_f, show q_TT false = 281474976710656 from rfl, Bool.false_eq_true, reduceIte, show ¬ (1 : Nat) = 0 by decide, show ¬ (2 : Nat) = 0 by decide, show ¬ (3 : Nat) = 0 by decide, show ¬ (4 : Nat) = 0 by decide, show ¬ (5 : Nat) = 0 by decide]
    simp only [Int.natCast_add, Int.natCast_mul]
  have ct := v_ct_ok (m1 := w_cnt L 1 F) (m2 := w_cnt L 2 F) (m3 := w_cnt L 3 F) (m4 := w_cnt L 4 F) (m5 := w_cnt L 5 F) v4 (by decide) (by decide) (by decide) (by omega) (by omega) (by omega) (by omega) (by omega)
  have hz : ∀ k m, (m = 0 ∨ v_sq A B k = true) → ∃ q, m * v_rt A B k = q * 281474976710656 := by
    rintro k m (q | q)
    · exact ⟨0, by rw [q]; omega⟩
    · obtain ⟨s, e1, _⟩ := v_sq_ok q
      exact ⟨m * s, by rw [e1, show (2 ^ 48 : Nat) = 281474976710656 from rfl, Nat.mul_assoc]⟩
  generalize hy : w_cnt L 1 F * v_rt A B 1 + w_cnt L 2 F * v_rt A B 2 + w_cnt L 3 F * v_rt A B 3 + w_cnt L 4 F * v_rt A B 4 + w_cnt L 5 F * v_rt A B 5 = y at *
  rw [show (2 ^ 48 : Nat) = 281474976710656 from rfl] at ct
  generalize m_S 0 L A B F = sF at *
  generalize m_S 0 L A B E = sE at *
  rcases Int.lt_trichotomy ((sE + 64) * 1000 / 281474976710656) ((sF + 64) * 1000 / 281474976710656) with q | q | q
  · exfalso
    have hit : (1000 * y + 64000) % 281474976710656 ≤ 64000 := by
      have e : ((1000 * y + 64000 : Nat) : Int) = ((sF + 64) * 1000 - (sF + 64) * 1000 / 281474976710656 * 281474976710656) + ((sF + 64) * 1000 / 281474976710656 - 1000 * (w_wh L A B F : Int)) * 281474976710656 := by omega
      have e2 : ((1000 * y + 64000 : Nat) : Int) % 281474976710656 = (sF + 64) * 1000 - (sF + 64) * 1000 / 281474976710656 * 281474976710656 := by
        rw [e, Int.add_mul_emod_self_right]
        exact Int.emod_eq_of_lt (by omega) (by omega)
      have e3 : (sF + 64) * 1000 - (sF + 64) * 1000 / 281474976710656 * 281474976710656 < 64000 := by omega
      omega
    obtain ⟨z1, z2, z3, z4, z5⟩ := ct hit
    obtain ⟨q1, r1⟩ := hz 1 _ z1
    obtain ⟨q2, r2⟩ := hz 2 _ z2
    obtain ⟨q3, r3⟩ := hz 3 _ z3
    obtain ⟨q4, r4⟩ := hz 4 _ z4
    obtain ⟨q5, r5⟩ := hz 5 _ z5
    omega
  · exact q
  · exfalso; omega
end Comb
section Cuts
variable {sp : Nat → Nat} {ph : Bool} {d : Nat} {m : y_m} {L R A B lw t X : Nat} {E F : List (Nat × Nat)}
theorem m_dec_D (pull : Bool) (hB : m_B L R A B) (hE : m_E L R E) : (∀ k, k < 6 → q_dec pull (w_code L A B E) k = w_d pull L A B E k) ∧ q_box (q_dec pull (w_code L A B E)) ∧ q_pos (q_dec pull (w_code L A B E)) := by
  obtain ⟨b1, b2, b3, b4, b5, b6, b7, b8⟩ := hB
  have e : ∀ k, k < 6 → q_dec pull (w_code L A B E) k = w_d pull L A B E k := fun k hk => w_dec pull b1 b2 hE.1 hk
  obtain ⟨c0, c1, c2, c3, c4, c5⟩ := w_b b1 b2 hE.1
  have w := w_wh_le (A := A) (B := B) b1 b2 b4 b6 (w_okb hE.1)
  have hl := hE.2
  refine ⟨e, q_box_congr e ?_, ?_⟩
  · unfold q_box w_d
    simp only [reduceIte, show ¬ (1 : Nat) = 0 by decide, show ¬ (2 : Nat) = 0 by decide, show ¬ (3 : Nat) = 0 by decide, show ¬ (4 : Nat) = 0 by decide, show ¬ (5 : Nat) = 0 by decide]
    cases pull
    · simp only [Bool.false_eq_true, reduceIte]; omega
    · simp only [reduceIte]; omega
  · unfold q_pos
    rw [e 0 (by decide), e 1 (by decide), e 2 (by decide), e 3 (by decide), e 4 (by decide), e 5 (by decide)]
    unfold w_d
    simp only [reduceIte, show ¬ (1 : Nat) = 0 by decide, show ¬ (2 : Nat) = 0 by decide, show ¬ (3 : Nat) = 0 by decide, show ¬ (4 : Nat) = 0 by decide, show ¬ (5 : Nat) = 0 by decide]
    cases pull
    · simp only [Bool.false_eq_true, reduceIte]; omega
    · simp only [reduceIte]; omega
theorem m_dec_fx (pull : Bool) (hB : m_B L R A B) (hE : m_E L R E) : q_fx pull A B (q_dec pull (w_code L A B E)) = w_S (w_f pull L A B) E := by
  rw [q_fx_congr (m_dec_D pull hB hE).1, w_fx pull hB.1 hB.2.1 (w_okb hE.1)]
/-- a length told in thousandths, a pull in millionths -/
theorem t_221L (h : q_RR m A B) (hB : m_B L R A B) (hE : m_E L R E) : ∃ m', y_V sp ph (d + 3) 221 [y_bo 11 0 49, y_bl (w_code L A B E : Int), y_bi 0] m = y_rI ((m_S 0 L A B E + 64) * 1000 / 281474976710656) m' ∧ q_F m_9 m m' := by
  obtain ⟨m1, a1, a2⟩ := t_221 (sp := sp) (ph := ph) (d := d) (pull := false) h (m_code_lt hB hE) (fun _ q => by cases q)
  refine ⟨m1, (show _ = _ from a1).trans ?_, a2⟩
  obtain ⟨d1, d2, d3⟩ := m_dec_D false hB hE
  have e : q_cu false A B (q_dec false (w_code L A B E)) = q_NN false A B (q_dec false (w_code L A B E)) / 10 ^ 217 := by
    unfold q_cu
    rw [Bool.and_false, if_neg (by decide)]; rfl
  rw [e, q_cutL hB.2.2.2.2.2.2.1 hB.2.2.1 hB.2.2.2.2.2.2.2 d2 d3, m_dec_fx false hB hE, m_S_eq]; rfl
theorem t_221P (h : q_RR m A B) (hB : m_B L R A B) (hE : m_E L R E) : ∃ m', y_V sp ph (d + 3) 221 [y_bo 11 0 49, y_bl (w_code L A B E : Int), y_bi 1] m = y_rI ((- m_S 2 L A B E + 64) * 1000000 / 288230376151711744) m' ∧ q_F m_9 m m' := by
  obtain ⟨d1, d2, d3⟩ := m_dec_D true hB hE
  have q := q_cutP hB.2.2.2.2.2.2.1 hB.2.2.1 hB.2.2.2.1 hB.2.2.2.2.2.1 hB.2.2.2.2.2.2.2 d2 d3
  obtain ⟨m1, a1, a2⟩ := t_221 (sp := sp) (ph := ph) (d := d) (pull := true) h (m_code_lt hB hE) (fun r _ => q.2 r)
  refine ⟨m1, (show _ = _ from a1).trans ?_, a2⟩
  rw [q.1, m_dec_fx true hB hE, m_S_eq, if_pos rfl, Int.neg_neg]
end Cuts
