/-! ===== the whole state: what both hold between calls ===== -/
abbrev x_Gt : Type := List Nat × List (Nat × Nat) × List (List Nat)
def x_g0 : x_Gt := ([], [], [])
def x_Wy (L R t : Nat) (w : List Nat) : Prop := (∀ h ∈ w, (c_wh L R t).testBit h = true) ∧ w.Nodup ∧ (w = [] ∨ 3 ≤ w.length) ∧ w.length ≤ 12
def x_Wg (L R t : Nat) (g : x_Gt) : Prop := x_Wy L R t g.1 ∧ u_Pk L R t g.2.1 ∧ u_Kk L R g.2.2
def x_Cl (m : y_m) (L R A B t lw X : Nat) (w : List Nat) (f : Nat → Int) (N : Nat) (q : Int) (P : List (Nat × Nat)) (K : List (List Nat)) (G : List x_Gt) : Prop :=
  u_C m L R A B t lw X w ∧ u_mb m ∧ u_Ct m f N ∧ y_mI m 0 12 = q ∧ u_PC m 25 P ∧ u_KC m 22 L K ∧ y_mI m 0 11 = (G.length : Int) ∧ ∀ i, i < G.length → u_SC m (31 + 6 * i) L (G.getD i x_g0).1 (G.getD i x_g0).2.1 (G.getD i x_g0).2.2
def x_Rf (m : y_m) (L R A B t lw X : Nat) (w : List Nat) (f : Nat → Int) (N : Nat) (q : Int) (P : List (Nat × Nat)) (K : List (List Nat)) (G : List x_Gt) : Prop :=
  u_R m L R A B t lw X w ∧ u_Rt m f N ∧ y_mI m 49 3 = q ∧ u_PR m P ∧ u_KR m K ∧ y_mI m 49 16 = (G.length : Int) ∧ ∀ i, i < G.length → u_IR m (68 + i) (G.getD i x_g0).1 (G.getD i x_g0).2.1 (G.getD i x_g0).2.2
def x_Wf (L R t X : Nat) (P : List (Nat × Nat)) (K : List (List Nat)) (G : List x_Gt) : Prop := 1 ≤ L ∧ 1 ≤ R ∧ X ≤ 9999 ∧ u_Pk L R t P ∧ u_Kk L R K ∧ G.length ≤ 3 ∧ ∀ g ∈ G, x_Wg L R t g
def x_In (m : y_m) : Prop := ∃ L R A B t lw X w f N q P K G, x_Cl m L R A B t lw X w f N q P K G ∧ x_Rf m L R A B t lw X w f N q P K G ∧ x_Wf L R t X P K G
/-- cells that a class's call may use up -/
def x_sc (a k : Nat) : Prop := (a = 1 ∧ 2 ≤ k) ∨ (6 ≤ a ∧ a ≤ 21) ∨ (a = 23 ∧ k = 1) ∨ a = 24
/-- cells that a reference's call may use up -/
def x_sr (a k : Nat) : Prop := (a = 49 ∧ k ≠ 1 ∧ k ≠ 3 ∧ k ≠ 14 ∧ k ≠ 15 ∧ k ≠ 16) ∨ a = 51 ∨ a = 53 ∨ a = 54 ∨ (90 ≤ a ∧ a ≤ 105) ∨ a = 300000
def x_rs (m m' : y_m) : y_m := (m.1, m.2.1, m'.2.2)
def x_cF (m m' : y_m) : Prop := ∀ a, 49 ≤ a → a ≤ 103 → ∀ k, y_mI m' a k = y_mI m a k ∧ y_mJ m' a k = y_mJ m a k
def x_rF (m m' : y_m) : Prop := y_mc m' = y_mc m ∧ y_mx m' = y_mx m ∧ ∀ a, a ≤ 48 → ∀ k, y_mI m' a k = y_mI m a k ∧ y_mJ m' a k = y_mJ m a k
theorem q_rt_eq {m m' : y_m} {k A r : Nat} (hI : y_mI m' = y_mI m) (hJ : y_mJ m' = y_mJ m) (h : q_rt m k A r) : q_rt m' k A r := by
  unfold q_rt at h ⊢
  rw [hI, hJ]
  exact h
section State
variable {m m' m1 : y_m} {L R A B t lw X N : Nat} {w w' : List Nat} {f : Nat → Int} {q : Int} {P : List (Nat × Nat)} {K : List (List Nat)} {G : List x_Gt}
theorem x_cF_refl : x_cF m m := fun _ _ _ _ => ⟨rfl, rfl⟩
theorem x_rF_refl : x_rF m m := ⟨rfl, rfl, fun _ _ _ => ⟨rfl, rfl⟩⟩
theorem x_cF_trans (h : x_cF m m1) (g : x_cF m1 m') : x_cF m m' := fun a h1 h2 k => ⟨(g a h1 h2 k).1.trans (h a h1 h2 k).1, (g a h1 h2 k).2.trans (h a h1 h2 k).2⟩
theorem x_rF_trans (h : x_rF m m1) (g : x_rF m1 m') : x_rF m m' := ⟨g.1.trans h.1, g.2.1.trans h.2.1, fun a h1 k => ⟨(g.2.2 a h1 k).1.trans (h.2.2 a h1 k).1, (g.2.2 a h1 k).2.trans (h.2.2 a h1 k).2⟩⟩
theorem x_cF_q {F : Nat → Nat → Prop} (h : q_F F m m') (g : ∀ a k, F a k → a ≤ 48 ∨ 104 ≤ a) : x_cF m m' := fun a h1 h2 k => ⟨q_F_I h a k (fun q => by have := g a k q; omega), q_F_J h a k (fun q => by have := g a k q; omega)⟩
theorem x_rF_q {F : Nat → Nat → Prop} (h : q_F F m m') (g : ∀ a k, F a k → 49 ≤ a) : x_rF m m' := ⟨h.2.2.1, h.2.2.2.1, fun a h1 k => ⟨q_F_I h a k (fun q => by have := g a k q; omega), q_F_J h a k (fun q => by have := g a k q; omega)⟩⟩
theorem x_cF_tm : x_cF m (y_tm m) := fun _ _ _ _ => ⟨rfl, rfl⟩
/-- counts alone -/
theorem x_Cl_n {n s : Nat} (h : x_Cl m L R A B t lw X w f N q P K G) : x_Cl (n, s, m.2.2) L R A B t lw X w f N q P K G := h
theorem x_Rf_n {n s : Nat} (h : x_Rf m L R A B t lw X w f N q P K G) : x_Rf (n, s, m.2.2) L R A B t lw X w f N q P K G := h
end State
