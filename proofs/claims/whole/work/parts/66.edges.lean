/-! ===== spans in a row: their code, their number; how many there can be of a kind ===== -/
theorem n_sub : ∀ {l l' : List (Nat × Nat)}, l.Nodup → (∀ x, x ∈ l → x ∈ l') → l.length ≤ l'.length
  | [], _, _, _ => Nat.zero_le _
  | a :: l, l', h, hs => by
    obtain ⟨h1, h2⟩ := List.nodup_cons.mp h
    have ha := hs a List.mem_cons_self
    have := n_sub (l' := l'.erase a) h2 (fun x hx => (List.mem_erase_of_ne (fun q => h1 (by rw [← q]; exact hx))).mpr (hs x (List.mem_cons_of_mem _ hx)))
    rw [List.length_erase_of_mem ha] at this
    have hl := List.length_pos_of_mem ha
    rw [List.length_cons]
    omega
def w_e (a b : Nat) : Nat × Nat := if a < b then (a, b) else (b, a)
def w_S (f : Nat × Nat → Int) : List (Nat × Nat) → Int
  | [] => 0
  | e :: E => f e + w_S f E
def w_code (L A B : Nat) : List (Nat × Nat) → Nat
  | [] => 0
  | e :: E => r_code L A B e.1 e.2 + w_code L A B E
def w_is (L k : Nat) (e : Nat × Nat) : Bool := r_x L e.1 e.2 && decide (r_gap L e.1 e.2 = k)
def w_cnt (L k : Nat) (E : List (Nat × Nat)) : Nat := (E.filter (w_is L k)).length
def w_w1 (L A B : Nat) (e : Nat × Nat) : Nat := if r_x L e.1 e.2 then (if r_gap L e.1 e.2 = 0 then A else 0) else r_gap L e.1 e.2 * B
def w_wh (L A B : Nat) : List (Nat × Nat) → Nat
  | [] => 0
  | e :: E => w_w1 L A B e + w_wh L A B E
/-- spans of holes that there are, each once -/
def w_ok (L R : Nat) (E : List (Nat × Nat)) : Prop := E.Nodup ∧ ∀ e ∈ E, e.1 < e.2 ∧ e.2 < L + R
theorem r_gap_comm (L a b : Nat) : r_gap L a b = r_gap L b a := by unfold r_gap; omega
theorem w_e_code {L A B a b : Nat} : r_code L A B (w_e a b).1 (w_e a b).2 = r_code L A B a b := by
  unfold w_e
  split
  · rfl
  · unfold r_code; rw [r_x_comm L b a, r_gap_comm L b a]
theorem w_cnt_cons {L k : Nat} {e : Nat × Nat} {E : List (Nat × Nat)} : w_cnt L k (e :: E) = (if w_is L k e then 1 else 0) + w_cnt L k E := by
  unfold w_cnt
  rw [List.filter_cons]
  split <;> simp <;> omega
theorem w_code_eq {L R A B : Nat} (h1 : L ≤ 6) (h2 : R ≤ 6) : ∀ {E : List (Nat × Nat)}, (∀ e ∈ E, e.1 < L + R ∧ e.2 < L + R) → w_code L A B E = w_wh L A B E * 16777216 + w_cnt L 0 E + w_cnt L 1 E * 16 + w_cnt L 2 E * 256 + w_cnt L 3 E * 4096 + w_cnt L 4 E * 65536 + w_cnt L 5 E * 1048576
  | [], _ => by simp [w_code, w_wh, w_cnt]
  | e :: E, h => by
    have he := h e List.mem_cons_self
    have g := r_gap_lt h1 h2 he.1 he.2
    have ih := w_code_eq (A := A) (B := B) h1 h2 (E := E) (fun e he => h e (List.mem_cons_of_mem _ he))
    rw [w_code, w_wh, ih, w_cnt_cons, w_cnt_cons, w_cnt_cons, w_cnt_cons, w_cnt_cons, w_cnt_cons]
    unfold r_code w_w1 w_is
    cases r_x L e.1 e.2
    · simp only [Bool.false_eq_true, reduceIte, Bool.false_and]; omega
    · simp only [reduceIte, Bool.true_and]
      rcases (show r_gap L e.1 e.2 = 0 ∨ r_gap L e.1 e.2 = 1 ∨ r_gap L e.1 e.2 = 2 ∨ r_gap L e.1 e.2 = 3 ∨ r_gap L e.1 e.2 = 4 ∨ r_gap L e.1 e.2 = 5 by omega) with q | q | q | q | q | q <;> rw [q] <;> simp <;> omega
/-- across spans of a gap, all of them -/
def w_F (L k : Nat) : List (Nat × Nat) := (List.range 6).flatMap fun (i : Nat) => ((List.range 6).filter fun (j : Nat) => decide (((i : Int) - (j : Int)).natAbs = k)).map fun (j : Nat) => (i, L + j)
theorem w_F_len : ∀ L, L < 7 → ((w_F L 0).length = 6 ∧ (w_F L 1).length = 10 ∧ (w_F L 2).length = 8 ∧ (w_F L 3).length = 6 ∧ (w_F L 4).length = 4 ∧ (w_F L 5).length = 2) := by decide
theorem w_F_mem {L R k : Nat} (h1 : L ≤ 6) (h2 : R ≤ 6) {e : Nat × Nat} (h : e.1 < e.2) (h' : e.2 < L + R) (hi : w_is L k e = true) : e ∈ w_F L k := by
  obtain ⟨a, b⟩ := e
  unfold w_is at hi
  rw [Bool.and_eq_true, decide_eq_true_eq] at hi
  obtain ⟨hx, hg⟩ := hi
  dsimp only at h h' hx hg
  have ha : a < L := by
    unfold r_x at hx
    by_cases c : a < L
    · exact c
    · rw [decide_eq_false c, decide_eq_false (show ¬ b < L by omega)] at hx
      cases hx
  have hb : ¬ b < L := by
    intro c
    unfold r_x at hx
    rw [decide_eq_true ha, decide_eq_true c] at hx
    cases hx
  unfold r_gap r_row at hg
  rw [if_pos ha, if_neg hb] at hg
  unfold w_F
  refine List.mem_flatMap.mpr ⟨a, List.mem_range.mpr (by omega), List.mem_map.mpr ⟨b - L, List.mem_filter.mpr ⟨List.mem_range.mpr (by omega), ?_⟩, ?_⟩⟩
  · exact decide_eq_true hg
  · rw [show L + (b - L) = b by omega]
theorem w_cnt_le {L R k : Nat} (h1 : L ≤ 6) (h2 : R ≤ 6) {E : List (Nat × Nat)} (h : w_ok L R E) : w_cnt L k E ≤ (w_F L k).length :=
  n_sub (List.Pairwise.filter _ h.1) (fun e he => by
    obtain ⟨a, b⟩ := List.mem_filter.mp he
    exact w_F_mem h1 h2 (h.2 e a).1 (h.2 e a).2 b)
theorem w_wh_le {L R A B : Nat} (h1 : L ≤ 6) (h2 : R ≤ 6) (hA : A ≤ 99) (hB : B ≤ 99) : ∀ {E : List (Nat × Nat)}, (∀ e ∈ E, e.1 < L + R ∧ e.2 < L + R) → w_wh L A B E ≤ 495 * E.length
  | [], _ => Nat.le_refl _
  | e :: E, h => by
    have he := h e List.mem_cons_self
    have g := r_gap_lt h1 h2 he.1 he.2
    have ih := w_wh_le (A := A) (B := B) h1 h2 hA hB (E := E) (fun e he => h e (List.mem_cons_of_mem _ he))
    have hm : r_gap L e.1 e.2 * B ≤ 5 * 99 := Nat.mul_le_mul (by omega) hB
    rw [w_wh, List.length_cons]
    unfold w_w1
    split
    · split <;> omega
    · omega
/-- how many spans of each kind there are at most -/
theorem w_b {L R : Nat} (h1 : L ≤ 6) (h2 : R ≤ 6) {E : List (Nat × Nat)} (h : w_ok L R E) : w_cnt L 0 E ≤ 6 ∧ w_cnt L 1 E ≤ 10 ∧ w_cnt L 2 E ≤ 8 ∧ w_cnt L 3 E ≤ 6 ∧ w_cnt L 4 E ≤ 4 ∧ w_cnt L 5 E ≤ 2 := by
  obtain ⟨f0, f1, f2, f3, f4, f5⟩ := w_F_len L (by omega)
  have c0 := w_cnt_le (k := 0) h1 h2 h
  have c1 := w_cnt_le (k := 1) h1 h2 h
  have c2 := w_cnt_le (k := 2) h1 h2 h
  have c3 := w_cnt_le (k := 3) h1 h2 h
  have c4 := w_cnt_le (k := 4) h1 h2 h
  have c5 := w_cnt_le (k := 5) h1 h2 h
  omega
def w_d (pull : Bool) (L A B : Nat) (E : List (Nat × Nat)) (k : Nat) : Int := if k = 0 then (if pull then (w_cnt L 0 E : Int) else (w_wh L A B E : Int)) else (w_cnt L k E : Int)
theorem w_okb {L R : Nat} {E : List (Nat × Nat)} (h : w_ok L R E) : ∀ e ∈ E, e.1 < L + R ∧ e.2 < L + R := fun e he => ⟨by have := (h.2 e he); omega, (h.2 e he).2⟩
theorem w_dec {L R A B : Nat} (pull : Bool) (h1 : L ≤ 6) (h2 : R ≤ 6) {E : List (Nat × Nat)} (h : w_ok L R E) {k : Nat} (hk : k < 6) : q_dec pull (w_code L A B E) k = w_d pull L A B E k := by
  have e := w_code_eq (A := A) (B := B) h1 h2 (w_okb h)
  obtain ⟨c0, c1, c2, c3, c4, c5⟩ := w_b h1 h2 h
  generalize w_code L A B E = c at *
  unfold q_dec w_d
  rcases (show k = 0 ∨ k = 1 ∨ k = 2 ∨ k = 3 ∨ k = 4 ∨ k = 5 by omega) with rfl | rfl | rfl | rfl | rfl | rfl
  · rw [if_pos rfl, if_pos rfl]
    cases pull
    · simp only [Bool.false_eq_true, reduceIte]; omega
    · simp only [reduceIte, Nat.pow_zero, Nat.div_one]; omega
  all_goals
    rw [if_neg (by decide), if_neg (by decide)]
    simp only [Nat.reducePow]
    omega
theorem w_code_lt {L R A B : Nat} (h1 : L ≤ 6) (h2 : R ≤ 6) (hA : A ≤ 99) (hB : B ≤ 99) {E : List (Nat × Nat)} (h : w_ok L R E) (hl : E.length ≤ 20) : w_code L A B E < 167772160000 := by
  have e := w_code_eq (A := A) (B := B) h1 h2 (w_okb h)
  obtain ⟨c0, c1, c2, c3, c4, c5⟩ := w_b h1 h2 h
  have w := w_wh_le (A := A) (B := B) h1 h2 hA hB (w_okb h)
  omega
/-- the class's number of a span: its length, its pull -/
def w_ln (A B g : Nat) : Int := if g = 0 then A * 281474976710656 else (v_rt A B g : Int)
def w_pu (A B g : Nat) : Int := if g = 0 then 288230376151711744 else (v_pl A B g : Int)
def w_f (pull : Bool) (L A B : Nat) (e : Nat × Nat) : Int := if pull then r_pul (w_pu A B) L e.1 e.2 else r_len (w_ln A B) L B e.1 e.2
theorem w_fx {L R A B : Nat} (pull : Bool) (h1 : L ≤ 6) (h2 : R ≤ 6) : ∀ {E : List (Nat × Nat)}, (∀ e ∈ E, e.1 < L + R ∧ e.2 < L + R) → q_fx pull A B (w_d pull L A B E) = w_S (w_f pull L A B) E
  | [], _ => by unfold q_fx w_d; cases pull <;> simp [w_cnt, w_wh, w_S]
  | e :: E, h => by
    have he := h e List.mem_cons_self
    have g := r_gap_lt h1 h2 he.1 he.2
    have ih := w_fx (A := A) (B := B) pull h1 h2 (E := E) (fun e he => h e (List.mem_cons_of_mem _ he))
    rw [w_S, ← ih]
    unfold q_fx w_d
    simp only [w_cnt_cons, w_wh]
    simp only [reduceIte, show ¬ (1 : Nat) = 0 by decide, show ¬ (2 : Nat) = 0 by decide, show ¬ (3 : Nat) = 0 by decide, show ¬ (4 : Nat) = 0 by decide, show ¬ (5 : Nat) = 0 by decide]
    unfold w_is w_w1 w_f r_len r_pul w_ln w_pu
    cases pull
    · simp only [q_cc_f, show q_TT false = 281474976710656 from rfl, Bool.false_eq_true, reduceIte]
      cases r_x L e.1 e.2
      · simp only [Bool.false_eq_true, reduceIte, Bool.false_and, Int.natCast_add]; grind
      · simp only [reduceIte, Bool.true_and]
        rcases (show r_gap L e.1 e.2 = 0 ∨ r_gap L e.1 e.2 = 1 ∨ r_gap L e.1 e.2 = 2 ∨ r_gap L e.1 e.2 = 3 ∨ r_gap L e.1 e.2 = 4 ∨ r_gap L e.1 e.2 = 5 by omega) with q | q | q | q | q | q <;> rw [q] <;> simp <;> grind
    · simp only [q_cc_t, show q_TT true = 288230376151711744 from rfl, reduceIte]
      cases r_x L e.1 e.2
      · simp only [Bool.false_eq_true, reduceIte, Bool.false_and, Int.natCast_add]; grind
      · simp only [reduceIte, Bool.true_and]
        rcases (show r_gap L e.1 e.2 = 0 ∨ r_gap L e.1 e.2 = 1 ∨ r_gap L e.1 e.2 = 2 ∨ r_gap L e.1 e.2 = 3 ∨ r_gap L e.1 e.2 = 4 ∨ r_gap L e.1 e.2 = 5 by omega) with q | q | q | q | q | q <;> rw [q] <;> simp <;> grind
theorem q_fx_congr {pull : Bool} {A B : Nat} {D E : Nat → Int} (h : ∀ k, k < 6 → D k = E k) : q_fx pull A B D = q_fx pull A B E := by
  unfold q_fx
  rw [h 0 (by decide), h 1 (by decide), h 2 (by decide), h 3 (by decide), h 4 (by decide), h 5 (by decide)]
theorem q_fx_sub {pull : Bool} {A B : Nat} {D E : Nat → Int} : q_fx pull A B (fun k => D k - E k) = q_fx pull A B D - q_fx pull A B E := by
  unfold q_fx; grind
theorem q_box_congr {D E : Nat → Int} (h : ∀ k, k < 6 → D k = E k) (hb : q_box E) : q_box D := by
  unfold q_box
  rw [h 0 (by decide), h 1 (by decide), h 2 (by decide), h 3 (by decide), h 4 (by decide), h 5 (by decide)]; exact hb
/-- two sums of spans set against each other -/
theorem w_cmp {L R A B : Nat} (pull : Bool) (h1 : L ≤ 6) (h2 : R ≤ 6) (hA : A ≤ 99) (hB : B ≤ 99) {E F : List (Nat × Nat)} (hE : w_ok L R E) (hF : w_ok L R F) (lE : E.length ≤ 20) (lF : F.length ≤ 20) : q_box (q_df pull (w_code L A B E) (w_code L A B F)) ∧ q_fx pull A B (q_df pull (w_code L A B E) (w_code L A B F)) = w_S (w_f pull L A B) E - w_S (w_f pull L A B) F := by
  have e : ∀ k, k < 6 → q_df pull (w_code L A B E) (w_code L A B F) k = (fun k => w_d pull L A B E k - w_d pull L A B F k) k := by
    intro k hk
    unfold q_df
    rw [w_dec pull h1 h2 hE hk, w_dec pull h1 h2 hF hk]
  refine ⟨q_box_congr e ?_, ?_⟩
  · obtain ⟨c0, c1, c2, c3, c4, c5⟩ := w_b h1 h2 hE
    obtain ⟨b0, b1, b2, b3, b4, b5⟩ := w_b h1 h2 hF
    have w := w_wh_le (A := A) (B := B) h1 h2 hA hB (w_okb hE)
    have w' := w_wh_le (A := A) (B := B) h1 h2 hA hB (w_okb hF)
    unfold q_box w_d
    simp only [reduceIte, show ¬ (1 : Nat) = 0 by decide, show ¬ (2 : Nat) = 0 by decide, show ¬ (3 : Nat) = 0 by decide, show ¬ (4 : Nat) = 0 by decide, show ¬ (5 : Nat) = 0 by decide]
    cases pull
    · simp only [Bool.false_eq_true, reduceIte]; omega
    · simp only [reduceIte]; omega
  · rw [q_fx_congr e, q_fx_sub, w_fx pull h1 h2 (w_okb hE), w_fx pull h1 h2 (w_okb hF)]
