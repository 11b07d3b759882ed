section Image
variable {sp : Nat → Nat} {ph : Bool} {d : Nat} {m m0 m' : y_m} {G G' : Nat → Int} {w : List Nat} {P : List (Nat × Nat)} {K : List (List Nat)} {L R : Nat}
def u_gI (G : Nat → Int) (w : List Nat) (P : List (Nat × Nat)) (K : List (List Nat)) : Prop := G 0 = w.length ∧ G 1 = P.length ∧ G 2 = K.length ∧ (∀ i, i < w.length → G (3 + i) = ((w.getD i 0 : Nat) : Int)) ∧ (∀ i, i < P.length → G (15 + 2 * i + 0) = (P.getD i (0, 0)).1 ∧ G (15 + 2 * i + 1) = (P.getD i (0, 0)).2) ∧ ∀ i, i < K.length → G (27 + 13 * i + 12) = (K.getD i []).length ∧ ∀ j, j < (K.getD i []).length → G (27 + 13 * i + j) = (((K.getD i []).getD j 0 : Nat) : Int)
def u_ln (w : List Nat) (P : List (Nat × Nat)) (K : List (List Nat)) : Prop := w.length ≤ 12 ∧ P.length ≤ 6 ∧ K.length ≤ 4 ∧ ∀ i, i < K.length → (K.getD i []).length ≤ 12
theorem u_gI_congr (hl : u_ln w P K) (h : ∀ i, i < 79 → G' i = G i) (hG : u_gI G w P K) : u_gI G' w P K := by
  obtain ⟨l1, l2, l3, l4⟩ := hl
  obtain ⟨g1, g2, g3, g4, g5, g6⟩ := hG
  refine ⟨by rw [h 0 (by omega)]; exact g1, by rw [h 1 (by omega)]; exact g2, by rw [h 2 (by omega)]; exact g3, fun i hi => by rw [h _ (by omega)]; exact g4 i hi, fun i hi => ⟨by rw [h _ (by omega)]; exact (g5 i hi).1, by rw [h _ (by omega)]; exact (g5 i hi).2⟩, fun i hi => ⟨by rw [h _ (by omega)]; exact (g6 i hi).1, fun j hj => ?_⟩⟩
  have := l4 i hi
  rw [h _ (by omega)]; exact (g6 i hi).2 j hj
def u_SR (m : y_m) (w : List Nat) (P : List (Nat × Nat)) (K : List (List Nat)) : Prop := q_V m w ∧ u_PR m P ∧ u_KR m K
theorem u_SR_g (hl : u_ln w P K) : u_SR m w P K ↔ u_gI (fun i => y_mI m (u_gp i).1 (u_gp i).2) w P K := by
  obtain ⟨l1, l2, l3, l4⟩ := hl
  have ea : ∀ i, i < w.length → u_gp (3 + i) = (54, i) := fun i hi => u_gp_a (by omega)
  have ep : ∀ i j, i < P.length → j < 2 → u_gp (15 + 2 * i + j) = (56 + i, j) := fun i j hi hj => u_gp_2 (by omega) hj
  have ek : ∀ i j, j < 13 → u_gp (27 + 13 * i + j) = (63 + i, j) := fun i j hj => u_gp_3 hj
  constructor
  · rintro ⟨h1, h2, h3⟩
    refine ⟨h1.1, h2.1, h3.1, fun i hi => ?_, fun i hi => ⟨?_, ?_⟩, fun i hi => ⟨?_, fun j hj => ?_⟩⟩
    · dsimp only; rw [ea i hi]; exact h1.2.2 i hi
    · dsimp only; rw [ep i 0 hi (by omega)]; exact (h2.2 i hi).1
    · dsimp only; rw [ep i 1 hi (by omega)]; exact (h2.2 i hi).2
    · dsimp only; rw [ek i 12 (by omega)]; exact (h3.2 i hi).1
    · have := l4 i hi
      dsimp only; rw [ek i j (by omega)]; exact (h3.2 i hi).2 j hj
  · rintro ⟨g1, g2, g3, g4, g5, g6⟩
    refine ⟨⟨g1, l1, fun i hi => ?_⟩, ⟨g2, fun i hi => ⟨?_, ?_⟩⟩, ⟨g3, fun i hi => ⟨?_, fun j hj => ?_⟩⟩⟩
    · have := g4 i hi
      dsimp only at this; rw [ea i hi] at this; exact this
    · have := (g5 i hi).1
      dsimp only at this; rw [ep i 0 hi (by omega)] at this; exact this
    · have := (g5 i hi).2
      dsimp only at this; rw [ep i 1 hi (by omega)] at this; exact this
    · have := (g6 i hi).1
      dsimp only at this; rw [ek i 12 (by omega)] at this; exact this
    · have b := l4 i hi
      have := (g6 i hi).2 j hj
      dsimp only at this; rw [ek i j (by omega)] at this; exact this
/-- an image in the reference's row -/
def u_IR (m : y_m) (b : Nat) (w : List Nat) (P : List (Nat × Nat)) (K : List (List Nat)) : Prop := u_gI (fun i => y_mI m b i) w P K
theorem u_IR_F {S : Nat → Nat → Prop} {b : Nat} (h : u_IR m b w P K) (hF : q_F S m m') (hS : ∀ k, ¬ S b k) : u_IR m' b w P K := by
  have e : (fun i => y_mI m' b i) = fun i => y_mI m b i := funext fun i => q_F_I hF b i (hS i)
  unfold u_IR
  rw [e]; exact h
theorem t_295f (h : y_mI m 49 16 = 3) : y_V sp ph (d + 1) 295 [y_bo 11 0 49] m = y_rI (-1) (y_sI m 49 0 0) := by
  have e : y_mI (y_sI m 49 0 0) 49 16 = 3 := by rw [e_II' (by omega)]; exact h
  rw [y_C_295, y_E_295_0, e, if_neg (by decide)]
theorem t_295 {n : Nat} (h : y_mI m 49 16 = (n : Int)) (hn : n < 3) (hl : u_ln w P K) (hS : u_SR m w P K) : ∃ m', y_V sp ph (d + 3) 295 [y_bo 11 0 49] m = y_rI ((n : Int) + 1) m' ∧ q_F (fun a k => (a = 49 ∧ (k = 0 ∨ k = 16 ∨ k = 17)) ∨ a = 68 + n) m m' ∧ y_mI m' 49 0 = 0 ∧ y_mI m' 49 16 = ((n + 1 : Nat) : Int) ∧ u_IR m' (68 + n) w P K := by
  have e : y_mI (y_sI m 49 0 0) 49 16 = n := by rw [e_II' (by omega)]; exact h
  have F0 : q_F (fun a k => (a = 49 ∧ (k = 0 ∨ k = 16 ∨ k = 17)) ∨ a = 68 + n) m (y_sI m 49 0 0) := q_F_sI (by omega)
  have hS' : u_SR (y_sI m 49 0 0) w P K := ⟨q_V_F hS.1 (q_F_sI (S := fun a k => a = 49 ∧ k = 0) ⟨rfl, rfl⟩) (fun a k r => by omega), u_PR_F (S := fun a k => a = 49 ∧ k = 0) hS.2.1 hl.2.1 (q_F_sI ⟨rfl, rfl⟩) (by omega) (fun a k r => by omega), u_KR_F (S := fun a k => a = 49 ∧ k = 0) hS.2.2 hl.2.2.1 (q_F_sI ⟨rfl, rfl⟩) (by omega) (fun a k r => by omega)⟩
  have e0 : y_mI (y_sI m 49 0 0) 49 0 = 0 := e_II
  have st : y_V sp ph (d + 3) 295 [y_bo 11 0 49] m = y_R sp ph (d + 2) 295 15 [some (y_bo 11 0 49)] [] (y_sI m 49 0 0) := by
    rw [y_C_295, y_E_295_0, e, if_pos (by rw [z_w_id (by omega) (by omega)]; omega)]
  rw [st]
  generalize y_sI m 49 0 0 = M at *
  obtain ⟨m1, a1, a2, ⟨a3, a4, a5, a6, a7⟩, a8, -⟩ := t_294 (sp := sp) (ph := ph) (d := d) (m := M) (mode := 0) (a1 := 68 + n) (Or.inl rfl) (by omega)
  obtain ⟨b1, b2⟩ := a8 rfl
  have G : q_F (fun a k => (a = 49 ∧ k = 17) ∨ a = 68 + n) M m1 := ⟨a3, a4, a5, a6, fun a k q => b2 a k (by omega) (by omega), fun a k _ => a7 a k⟩
  have e16 : y_mI m1 49 16 = n := by rw [q_F_I G 49 16 (by omega)]; exact e
  have er : (68 : Nat) + 1 * ((n : Nat) : Int).toNat = 68 + n := by omega
  have hI : u_IR m1 (68 + n) w P K := u_gI_congr hl (fun i hi => b1 i hi) ((u_SR_g hl).mp hS')
  have F1 : q_F (fun a k => a = 49 ∧ k = 16) m1 (y_sI m1 49 16 ((n : Int) + 1)) := q_F_sI ⟨rfl, rfl⟩
  have a1' : y_V sp ph (d + 2) 294 [y_bo 11 0 49, y_bo 100 79 (68 + n), y_bi 0] M = y_rV m1 := a1
  refine ⟨y_sI m1 49 16 ((n : Int) + 1), ?_, q_F_trans F0 (q_F_trans (q_F_mono G (fun a k r => by omega)) (q_F_mono F1 (fun a k r => by omega))), ?_, by rw [e_II]; omega, u_IR_F hI F1 (fun k r => by omega)⟩
  · rw [y_E_295_15, e, e_g ⟨by omega, by omega⟩, er, a1', e_bV, e16, e_II]
  · rw [e_II' (by omega), q_F_I G 49 0 (by omega)]; exact e0
theorem t_296f (h : y_mI m 49 16 = 0) : y_V sp ph (d + 1) 296 [y_bo 11 0 49] m = y_rI (-1) (y_sI m 49 0 0) := by
  have e : y_mI (y_sI m 49 0 0) 49 16 = 0 := by rw [e_II' (by omega)]; exact h
  rw [y_C_296, y_E_296_0, e, if_neg (by decide)]
/-- the cells that a restore lays -/
def u_rs (a k : Nat) : Prop := (a = 49 ∧ (k = 0 ∨ (13 ≤ k ∧ k ≤ 17))) ∨ a = 54 ∨ (56 ≤ a ∧ a ≤ 61) ∨ (63 ≤ a ∧ a ≤ 66)
theorem u_gp_rs {i : Nat} (h : i < 79) : u_rs (u_gp i).1 (u_gp i).2 := by
  unfold u_gp u_rs
  repeat' split
  all_goals
    dsimp only
    omega
theorem t_296 {n : Nat} (h : y_mI m 49 16 = ((n + 1 : Nat) : Int)) (hn : n < 3) (hl : u_ln w P K) (hI : u_IR m (68 + n) w P K) : ∃ m', y_V sp ph (d + 3) 296 [y_bo 11 0 49] m = y_rI (n : Int) m' ∧ q_F u_rs m m' ∧ y_mI m' 49 0 = 0 ∧ y_mI m' 49 16 = (n : Int) ∧ u_SR m' w P K := by
  have e : y_mI (y_sI m 49 0 0) 49 16 = ((n + 1 : Nat) : Int) := by rw [e_II' (by omega)]; exact h
  have F0 : q_F (fun a k => a = 49 ∧ (k = 0 ∨ k = 16)) m (y_sI (y_sI m 49 0 0) 49 16 (n : Int)) := q_F_trans (q_F_sI (by omega)) (q_F_sI (by omega))
  have en : y_mI (y_sI m 49 0 0) 49 16 - 1 = (n : Int) := by rw [e]; omega
  have e0 : y_mI (y_sI (y_sI m 49 0 0) 49 16 (n : Int)) 49 0 = 0 := by rw [e_II' (by omega), e_II]
  have e16 : y_mI (y_sI (y_sI m 49 0 0) 49 16 (n : Int)) 49 16 = n := e_II
  have hI' : u_IR (y_sI (y_sI m 49 0 0) 49 16 (n : Int)) (68 + n) w P K := u_IR_F hI F0 (fun k r => by omega)
  have st : y_V sp ph (d + 3) 296 [y_bo 11 0 49] m = y_bV (y_V sp ph (d + 2) 294 [y_bo 11 0 49, y_bo 100 79 (68 + n), y_bi 1] (y_sI (y_sI m 49 0 0) 49 16 (n : Int))) (fun m1 => y_rI (y_mI m1 49 16) m1) (fun e m1 => y_px e m1) := by
    rw [y_C_296, y_E_296_0, e, if_pos (by rw [z_w_id (by omega) (by omega)]; omega), y_E_296_14, en, e16, e_g ⟨by omega, by omega⟩, show (68 : Nat) + 1 * ((n : Nat) : Int).toNat = 68 + n by omega]
  rw [st]
  have F0' : q_F u_rs m (y_sI (y_sI m 49 0 0) 49 16 (n : Int)) := q_F_mono F0 (fun a k r => by unfold u_rs; omega)
  generalize y_sI (y_sI m 49 0 0) 49 16 (n : Int) = M at *
  obtain ⟨m1, a1, a2, ⟨a3, a4, a5, a6, a7⟩, -, a8⟩ := t_294 (sp := sp) (ph := ph) (d := d) (m := M) (mode := 1) (a1 := 68 + n) (Or.inr rfl) (by omega)
  obtain ⟨b1, b2⟩ := a8 rfl
  have a1' : y_V sp ph (d + 2) 294 [y_bo 11 0 49, y_bo 100 79 (68 + n), y_bi 1] M = y_rV m1 := a1
  have G : q_F u_rs M m1 := ⟨a3, a4, a5, a6, fun a k q => b2 a k (fun r => q (by unfold u_rs; omega)) (fun i hi r => q (by rw [← r.1, ← r.2]; exact u_gp_rs hi)), fun a k _ => a7 a k⟩
  have k16 : y_mI m1 49 16 = n := by
    rw [b2 49 16 (by omega) (fun i hi r => by have := u_gp_b hi; omega)]; exact e16
  refine ⟨m1, by rw [a1', e_bV, k16], q_F_trans F0' G, ?_, k16, (u_SR_g hl).mpr (u_gI_congr hl (fun i hi => b1 i hi) hI')⟩
  rw [b2 49 0 (by omega) (fun i hi r => by
    have : ∀ i, i < 79 → ¬ ((u_gp i).1 = 49 ∧ (u_gp i).2 = 0) := by
      intro i hi
      unfold u_gp
      repeat' split
      all_goals
        dsimp only
        omega
    exact this i hi r)]
  exact e0
end Image
