/-! ===== equal behind a call, a branch, a guard ===== -/
theorem y_bVc {x : y_Rs} {k k' : y_m → y_Rs} {h : Nat → y_m → y_Rs} (e : ∀ m, k m = k' m) : y_bV x k h = y_bV x k' h := by rw [funext e]
theorem y_bIc {x : y_Rs} {k k' : Int → y_m → y_Rs} {h : Nat → y_m → y_Rs} (e : ∀ v m, k v m = k' v m) : y_bI x k h = y_bI x k' h := by rw [funext fun v => funext (e v)]
theorem y_bLc {x : y_Rs} {k k' : Int → y_m → y_Rs} {h : Nat → y_m → y_Rs} (e : ∀ v m, k v m = k' v m) : y_bL x k h = y_bL x k' h := by rw [funext fun v => funext (e v)]
theorem y_ic {α : Type} {p : Prop} {i j : Decidable p} {A A' B B' : α} (a : A = A') (b : B = B') : @ite α p i A B = @ite α p j A' B' := by
  subst a; subst b
  by_cases hp : p
  · rw [if_pos hp, if_pos hp]
  · rw [if_neg hp, if_neg hp]
theorem y_gc {p : Prop} {i j : Decidable p} {A A' : y_Rs} (a : A = A') : @y_g p i A = @y_g p j A' := y_ic a rfl
theorem y_sh {sp : Nat → Nat} {ph rz : Bool} {hd : List (Nat × Nat)} {C : Nat → List y_Bv → y_m → y_Rs} {J : Nat → y_BL → List y_Bv → y_m → y_Rs} {is : List z_In} {nx : Nat} {L L' : y_BL} {S S' : List y_Bv} {m : y_m} {r : y_Rs} (hL : L = L') (hS : S = S') (h : y_xb sp ph rz hd C J is nx L' S' m = r) : y_xb sp ph rz hd C J is nx L S m = r := by rw [hL, hS]; exact h
