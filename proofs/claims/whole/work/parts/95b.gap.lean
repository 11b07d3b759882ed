/-! ===== numbers of spans: a difference of two sums is nothing, or far from it ===== -/
def m_w (what L A B : Nat) (e : Nat × Nat) : Int := if what = 2 then - w_f true L A B e else if what = 1 then - w_f false L A B e else w_f false L A B e
def m_S (what L A B : Nat) (E : List (Nat × Nat)) : Int := w_S (m_w what L A B) E
theorem m_S_cons {what L A B : Nat} {e : Nat × Nat} {E : List (Nat × Nat)} : m_S what L A B (e :: E) = m_w what L A B e + m_S what L A B E := rfl
theorem m_S_app {what L A B : Nat} {E : List (Nat × Nat)} : ∀ {D : List (Nat × Nat)}, m_S what L A B (D ++ E) = m_S what L A B D + m_S what L A B E
  | [] => by show m_S what L A B E = 0 + _; omega
  | e :: D => by
    rw [List.cons_append, m_S_cons, m_S_cons, m_S_app]; omega
theorem m_S_eq {what L A B : Nat} : ∀ {E : List (Nat × Nat)}, m_S what L A B E = if what = 2 then - w_S (w_f true L A B) E else if what = 1 then - w_S (w_f false L A B) E else w_S (w_f false L A B) E
  | [] => by
    show (0 : Int) = _
    simp only [w_S]; repeat' split
    all_goals rfl
  | e :: E => by
    rw [m_S_cons, m_S_eq, w_S, w_S]
    unfold m_w
    repeat' split
    all_goals omega
def m_E (L R : Nat) (E : List (Nat × Nat)) : Prop := w_ok L R E ∧ E.length ≤ 20
/-- a boot that stands its check -/
def m_B (L R A B : Nat) : Prop := L ≤ 6 ∧ R ≤ 6 ∧ 1 ≤ A ∧ A ≤ 99 ∧ 1 ≤ B ∧ B ≤ 99 ∧ v_boot A B = true ∧ q_Fex A B
section Gap
variable {L R A B what : Nat} {E F : List (Nat × Nat)}
theorem m_gap (h : m_B L R A B) (hE : m_E L R E) (hF : m_E L R F) : (-64 ≤ m_S what L A B E - m_S what L A B F ∧ m_S what L A B E - m_S what L A B F ≤ 64) ∨ m_S what L A B E - m_S what L A B F < -1000 ∨ 1000 < m_S what L A B E - m_S what L A B F := by
  obtain ⟨h1, h2, h3, h4, h5, h6, h7, h8⟩ := h
  have c1 := w_cmp (A := A) (B := B) false h1 h2 h4 h6 hE.1 hF.1 hE.2 hF.2
  have c2 := w_cmp (A := A) (B := B) true h1 h2 h4 h6 hE.1 hF.1 hE.2 hF.2
  have g1 := q_gap (A := A) (B := B) false h7 c1.1
  have g2 := q_gap (A := A) (B := B) true h7 c2.1
  rw [c1.2] at g1
  rw [c2.2] at g2
  rw [m_S_eq, m_S_eq]
  repeat' split
  all_goals omega
theorem m_better (h : m_B L R A B) (hE : m_E L R E) (hF : m_E L R F) (hw : what ≤ 2) : q_bt A B what (w_code L A B E) (w_code L A B F) = decide (m_S what L A B E + 64 < m_S what L A B F) := by
  obtain ⟨h1, h2, h3, h4, h5, h6, h7, h8⟩ := h
  have c1 := w_cmp (A := A) (B := B) false h1 h2 h4 h6 hE.1 hF.1 hE.2 hF.2
  have c2 := w_cmp (A := A) (B := B) true h1 h2 h4 h6 hE.1 hF.1 hE.2 hF.2
  have g1 := q_sep (A := A) (B := B) false h7 h3 h8 c1.1
  have g2 := q_sep (A := A) (B := B) true h7 h3 h8 c2.1
  rw [c1.2] at g1
  rw [c2.2] at g2
  unfold q_bt
  rw [m_S_eq, m_S_eq, g1, g2]
  rcases (show what = 0 ∨ what = 1 ∨ what = 2 by omega) with rfl | rfl | rfl
  all_goals
    simp only [show ¬ (0 : Nat) = 2 by decide, show ¬ (0 : Nat) = 1 by decide, show ¬ (1 : Nat) = 2 by decide, show ¬ (1 : Nat) = 0 by decide, show ¬ (2 : Nat) = 0 by decide, reduceIte]
    refine decide_eq_decide.mpr ?_
    repeat' split
    all_goals omega
theorem m_code_lt (h : m_B L R A B) (hE : m_E L R E) : w_code L A B E < 167772160000 := w_code_lt h.1 h.2.1 h.2.2.2.1 h.2.2.2.2.2.1 hE.1 hE.2
/-! what the reference holds: the code of a row of spans no other is better than -/
def m_rf (what L A B : Nat) (v : Int) (P : List (Nat × Nat) → Prop) : Prop := (v = -1 ∧ ∀ E, ¬ P E) ∨ ∃ E, P E ∧ v = (w_code L A B E : Int) ∧ ∀ F, P F → m_S what L A B E ≤ m_S what L A B F + 64
theorem m_rf_none {P : List (Nat × Nat) → Prop} (h : ∀ E, ¬ P E) : m_rf what L A B (-1) P := Or.inl ⟨rfl, h⟩
theorem m_rf_congr {v : Int} {P Q : List (Nat × Nat) → Prop} (h : m_rf what L A B v P) (e : ∀ E, P E ↔ Q E) : m_rf what L A B v Q := by
  rcases h with ⟨h1, h2⟩ | ⟨E, h1, h2, h3⟩
  · exact Or.inl ⟨h1, fun E q => h2 E ((e E).mpr q)⟩
  · exact Or.inr ⟨E, (e E).mp h1, h2, fun F q => h3 F ((e F).mpr q)⟩
/-- the better of two -/
noncomputable def m_tk (A B what : Nat) (w v : Int) : Bool := decide (w ≠ -1) && (decide (v = -1) || q_bt A B what w.toNat v.toNat)
theorem m_rf_or {v w : Int} {P Q : List (Nat × Nat) → Prop} (hb : m_B L R A B) (hw : what ≤ 2) (hP : ∀ E, P E → m_E L R E) (hQ : ∀ E, Q E → m_E L R E) (h : m_rf what L A B v P) (g : m_rf what L A B w Q) : m_rf what L A B (if m_tk A B what w v then w else v) (fun E => P E ∨ Q E) := by
  unfold m_tk
  rcases h with ⟨h1, h2⟩ | ⟨E, h1, h2, h3⟩ <;> rcases g with ⟨g1, g2⟩ | ⟨F, g1, g2, g3⟩
  · rw [g1, h1]
    exact Or.inl ⟨rfl, fun E q => q.elim (h2 E) (g2 E)⟩
  · rw [decide_eq_true (show w ≠ -1 by omega), decide_eq_true h1]
    exact Or.inr ⟨F, Or.inr g1, g2, fun G q => q.elim (fun q => absurd q (h2 G)) (g3 G)⟩
  · rw [decide_eq_false (show ¬ (w ≠ -1) by omega)]
    exact Or.inr ⟨E, Or.inl h1, h2, fun G q => q.elim (h3 G) (fun q => absurd q (g2 G))⟩
  · rw [decide_eq_true (show w ≠ -1 by omega), decide_eq_false (show ¬ (v = -1) by omega), g2, h2, Int.toNat_natCast, Int.toNat_natCast, m_better hb (hQ F g1) (hP E h1) hw]
    simp only [Bool.true_and, Bool.false_or, decide_eq_true_eq]
    by_cases c : m_S what L A B F + 64 < m_S what L A B E
    · rw [if_pos c]
      exact Or.inr ⟨F, Or.inr g1, rfl, fun G q => q.elim (fun q => by have := h3 G q; omega) (g3 G)⟩
    · rw [if_neg c]
      refine Or.inr ⟨E, Or.inl h1, rfl, fun G q => q.elim (h3 G) (fun q => ?_)⟩
      have := g3 G q
      have := m_gap (what := what) hb (hP E h1) (hQ G q)
      omega
theorem m_rf_F {v : Int} {P : List (Nat × Nat) → Prop} (h : m_rf what L A B v P) : v = -1 ↔ ∀ E, ¬ P E := by
  rcases h with ⟨h1, h2⟩ | ⟨E, h1, h2, h3⟩
  · exact ⟨fun _ => h2, fun _ => h1⟩
  · exact ⟨fun q => by omega, fun q => absurd h1 (q E)⟩
theorem m_rf_b {v : Int} {P : List (Nat × Nat) → Prop} (hb : m_B L R A B) (hP : ∀ E, P E → m_E L R E) (h : m_rf what L A B v P) : -1 ≤ v ∧ v < 167772160000 := by
  rcases h with ⟨h1, h2⟩ | ⟨E, h1, h2, h3⟩
  · omega
  · have := m_code_lt hb (hP E h1); omega
theorem w_code_cons {a b : Nat} : w_code L A B (w_e a b :: E) = r_code L A B a b + w_code L A B E := by rw [w_code, w_e_code]
/-- a span more -/
theorem m_rf_cons {v : Int} {P : List (Nat × Nat) → Prop} {a b : Nat} (h : m_rf what L A B v P) : m_rf what L A B (if v = -1 then -1 else v + r_code L A B a b) (fun E => ∃ E', P E' ∧ E = w_e a b :: E') := by
  rcases h with ⟨h1, h2⟩ | ⟨E, h1, h2, h3⟩
  · rw [if_pos h1]
    exact Or.inl ⟨rfl, fun E q => by obtain ⟨E', q1, _⟩ := q; exact h2 E' q1⟩
  · rw [if_neg (by omega)]
    refine Or.inr ⟨w_e a b :: E, ⟨E, h1, rfl⟩, by rw [w_code_cons, h2]; omega, ?_⟩
    rintro F ⟨F', q, rfl⟩
    have := h3 F' q
    rw [m_S_cons, m_S_cons]; omega
/-- the class's least number of the same, and the reference's row -/
def m_P (what L A B : Nat) (P : List (Nat × Nat) → Prop) (x : Int) : Prop := ∃ E, P E ∧ x = m_S what L A B E
theorem m_near {v M : Int} {P : List (Nat × Nat) → Prop} (h : m_rf what L A B v P) (g : m_is M (m_P what L A B P)) : (v = -1 ∧ M = m_F) ∨ ∃ E F, P E ∧ v = (w_code L A B E : Int) ∧ P F ∧ M = m_S what L A B F ∧ M < m_F ∧ M ≤ m_S what L A B E ∧ m_S what L A B E ≤ M + 64 ∧ ∀ G, P G → M ≤ m_S what L A B G := by
  rcases h with ⟨h1, h2⟩ | ⟨E, h1, h2, h3⟩
  · exact Or.inl ⟨h1, (m_is_F g).mpr fun x hx => by obtain ⟨E, q, _⟩ := hx; exact h2 E q⟩
  · rcases g with ⟨g1, g2⟩ | ⟨⟨F, g1, g2⟩, g3, g4⟩
    · exact absurd ⟨E, h1, rfl⟩ (g2 (m_S what L A B E))
    · have := h3 F g1
      exact Or.inr ⟨E, F, h1, h2, g1, g2, g3, g4 _ ⟨E, h1, rfl⟩, by omega, fun G q => g4 _ ⟨G, q, rfl⟩⟩
end Gap
/-- the numbers of spans are small -/
theorem m_num_b {A B k : Nat} (h3 : 1 ≤ A) (h4 : A ≤ 99) (h6 : B ≤ 99) (hk : k < 6) (hv : v_rok A B k = true) : v_rt A B k < 2 ^ 57 ∧ v_pl A B k ≤ 288230376151712768 := by
  obtain ⟨e1, e2⟩ := v_rok_ok hv
  have hr := q_r_lt (A := A) (B := B) h4 h6 hk
  have hAr : A * A ≤ q_r A B k := by unfold q_r; omega
  have hA1 : A * 1 ≤ A * A := Nat.mul_le_mul_left A h3
  have hbig := v_rt_big h3 e2
  have hN : v_N A B k = q_r A B k * 2 ^ 96 := rfl
  refine ⟨?_, ?_⟩
  · rcases Nat.lt_or_ge (v_rt A B k) (2 ^ 57) with q | q
    · exact q
    · have := Nat.mul_le_mul q q
      rw [hN] at e1
      have : q_r A B k * 2 ^ 96 ≤ 254826 * 2 ^ 96 := Nat.mul_le_mul_right _ hr
      omega
  · unfold v_pl
    have e3 : v_N A B k - v_rt A B k * v_rt A B k ≤ 2 * v_rt A B k := by
      have : (v_rt A B k + 1) * (v_rt A B k + 1) = v_rt A B k * v_rt A B k + 2 * v_rt A B k + 1 := by rw [Nat.add_mul, Nat.mul_add]; omega
      omega
    generalize hmore : (v_N A B k - v_rt A B k * v_rt A B k) * 65536 / (2 * v_rt A B k) = more
    have hm : more ≤ 65536 := by
      rw [← hmore]
      refine Nat.div_le_of_le_mul ?_
      exact Nat.mul_le_mul_right _ e3
    have hr0 : 0 < q_r A B k := by omega
    have b := (v_plb (A := A) (r := q_r A B k) (l := v_rt A B k) (more := more) hr0).1
    generalize q_pl A (q_r A B k) (v_rt A B k) more = pl at *
    generalize v_rt A B k = l at *
    rw [hN] at e1
    generalize q_r A B k = r at *
    have hAl : A * l ≤ r * 2 ^ 48 := by
      refine Nat.mul_self_le_mul_self_iff.mp ?_
      have x1 : A * l * (A * l) = A * A * (l * l) := by rw [Nat.mul_mul_mul_comm]
      have x2 : r * 2 ^ 48 * (r * 2 ^ 48) = r * (r * 2 ^ 96) := by rw [Nat.mul_mul_mul_comm, Nat.mul_assoc]
      rw [x1, x2]
      exact Nat.mul_le_mul hAr e1
    have y1 : A * (l * 65536 + more) = A * l * 65536 + A * more := by rw [Nat.mul_add, Nat.mul_assoc]
    have y2 : A * more ≤ r * 65536 := Nat.mul_le_mul (by omega) hm
    have y3 : A * l * 65536 ≤ r * 2 ^ 48 * 65536 := Nat.mul_le_mul_right _ hAl
    rcases Nat.lt_or_ge 288230376151712768 pl with q | q
    · have : (288230376151712768 + 1) * r ≤ pl * r := Nat.mul_le_mul_right r q
      omega
    · exact q
theorem m_w_b {L R A B what : Nat} {e : Nat × Nat} (h : m_B L R A B) (he : e.1 < L + R ∧ e.2 < L + R) : -288230376151800000 ≤ m_w what L A B e ∧ m_w what L A B e ≤ 288230376151800000 := by
  obtain ⟨h1, h2, h3, h4, h5, h6, h7, h8⟩ := h
  have g := r_gap_lt h1 h2 he.1 he.2
  have hv := (v_boot_ok h7).1
  have hp : 0 ≤ w_f true L A B e ∧ w_f true L A B e ≤ 288230376151800000 := by
    unfold w_f r_pul w_pu
    simp only [reduceIte]
    by_cases x : r_x L e.1 e.2 = true
    · rw [if_pos x]
      by_cases q : r_gap L e.1 e.2 = 0
      · rw [if_pos q]; omega
      · rw [if_neg q]
        have := (m_num_b (B := B) h3 h4 h6 g (hv _ (by omega) g)).2
        omega
    · rw [if_neg x]; omega
  have hl : 0 ≤ w_f false L A B e ∧ w_f false L A B e ≤ 288230376151800000 := by
    unfold w_f r_len w_ln
    simp only [Bool.false_eq_true, reduceIte]
    by_cases x : r_x L e.1 e.2 = true
    · rw [if_pos x]
      by_cases q : r_gap L e.1 e.2 = 0
      · rw [if_pos q]; omega
      · rw [if_neg q]
        have := (m_num_b (B := B) h3 h4 h6 g (hv _ (by omega) g)).1
        omega
    · rw [if_neg x]
      have : r_gap L e.1 e.2 * B ≤ 5 * 99 := Nat.mul_le_mul (by omega) h6
      omega
  unfold m_w
  repeat' split
  all_goals omega
theorem m_S_b {L R A B what : Nat} (h : m_B L R A B) : ∀ {E : List (Nat × Nat)}, (∀ e ∈ E, e.1 < L + R ∧ e.2 < L + R) → -(288230376151800000 * (E.length : Int)) ≤ m_S what L A B E ∧ m_S what L A B E ≤ 288230376151800000 * (E.length : Int)
  | [], _ => by
    show _ ≤ (0 : Int) ∧ (0 : Int) ≤ _
    simp
  | e :: E, he => by
    have a := m_w_b (what := what) h (he e List.mem_cons_self)
    have b := m_S_b (what := what) h (E := E) (fun x hx => he x (List.mem_cons_of_mem _ hx))
    rw [m_S_cons, List.length_cons]
    omega
