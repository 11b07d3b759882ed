/-! ===== A MACHINE OF MY OWN OVER NUMBERS: values, a memory told by index, one instruction, a block, a run =====
A value: an int, a long (both as whole numbers, read modulo 2^32, 2^64), or a reference told by the index of its cell. -/
abbrev z_Av : Type := Int ⊕ Int ⊕ Option Nat
abbrev z_i (x : Int) : z_Av := Sum.inl x
abbrev z_l (x : Int) : z_Av := Sum.inr (Sum.inl x)
abbrev z_r (x : Option Nat) : z_Av := Sum.inr (Sum.inr x)
/-- how a call ends: it returns (nothing, a value), or throws the exception of a number -/
abbrev z_Ot : Type := Option z_Av ⊕ Nat
/-- the memory: cells made, slots made, references, ints, longs by cell and place -/
abbrev z_M : Type := Nat × Nat × (Nat → Nat → Option Nat) × (Nat → Nat → Int) × (Nat → Nat → Int)
abbrev z_n (M : z_M) : Nat := M.1
abbrev z_s (M : z_M) : Nat := M.2.1
abbrev z_R (M : z_M) : Nat → Nat → Option Nat := M.2.2.1
abbrev z_I (M : z_M) : Nat → Nat → Int := M.2.2.2.1
abbrev z_J (M : z_M) : Nat → Nat → Int := M.2.2.2.2
def z_up {α : Type} (f : Nat → Nat → α) (a k : Nat) (x : α) : Nat → Nat → α := fun a' k' => if a' = a ∧ k' = k then x else f a' k'
def z_row {α : Type} (f : Nat → Nat → α) (a : Nat) (g : Nat → α) : Nat → Nat → α := fun a' k' => if a' = a then g k' else f a' k'
def z_setI (M : z_M) (a k : Nat) (x : Int) : z_M := (z_n M, z_s M, z_R M, z_up (z_I M) a k x, z_J M)
def z_setJ (M : z_M) (a k : Nat) (x : Int) : z_M := (z_n M, z_s M, z_R M, z_I M, z_up (z_J M) a k x)
def z_setR (M : z_M) (a k : Nat) (x : Option Nat) : z_M := (z_n M, z_s M, z_up (z_R M) a k x, z_I M, z_J M)
/-- an int, a long as the machine holds it -/
def z_w (x : Int) : Int := (Int32.ofInt x).toInt
def z_wl (x : Int) : Int := (Int64.ofInt x).toInt
/-- the places of the world's cells: tags 0 .. 11 objects (the places in vwCl), 100 int[], 101 long[], 102 int[][], 103 Scene[] -/
abbrev z_P : Type := Bool × Nat
/-- the kind of a cell: 300000 is a row that a running method made for itself -/
def z_kd (P : z_P) (M : z_M) (a : Nat) : Nat × Nat :=
  if a = 300000 then (if P.1 = true ∧ P.2 ≠ 0 then (100, P.2) else (98, 0)) else if a < (if P.1 = true then z_KL.length else z_n M) then z_KL.getD a (98, 0) else (98, 0)
def z_fv (c j : Nat) (M : z_M) (a : Nat) : z_Av := if z_FT c j = 0 then z_r (z_R M a j) else z_i (z_I M a j)
def z_c1 (v : z_Av) : Bool := match v with
  | .inr (.inl _) => false
  | _ => true
def z_cat (v : z_Av) : Nat := match v with
  | .inr (.inl _) => 2
  | _ => 1
/-- locals by their places -/
abbrev z_L : Type := List (Option z_Av)
def z_kill (L : z_L) : Nat → z_L
  | 0 => L
  | i + 1 => match L[i]? with
    | some (some (.inr (.inl _))) => L.set i none
    | _ => L
def z_st1 (L : z_L) (i : Nat) (v : z_Av) : z_L := (z_kill L i).set i (some v)
def z_st2 (L : z_L) (i : Nat) (v : z_Av) : z_L := ((z_kill L i).set i (some v)).set (i + 1) none
def z_cmp (c : Jvm.ClassFile.Cond) (x y : Int) : Prop := match c with
  | .eq => z_w x = z_w y
  | .ne => ¬ z_w x = z_w y
  | .lt => z_w x < z_w y
  | .ge => z_w y ≤ z_w x
  | .gt => z_w y < z_w x
  | .le => z_w x ≤ z_w y
/-- an instruction, its place, what its pool number means: a class or a callee, a field, a word's place or a constant -/
abbrev z_In : Type := Instr × Nat × Nat × Nat × Int
def z_tg (i : z_In) (off : Int) : Nat := ((i.2.1 : Int) + off).toNat
def z_len (i : Instr) : Nat := match i with
  | .bipush _ | .iload _ | .lload _ | .aload _ | .istore _ | .lstore _ | .astore _ | .ldc _ | .newarray _ => 2
  | .sipush _ | .ldc_w _ | .ldc2_w _ | .getfield _ | .putfield _ | .invokevirtual _ | .invokestatic _ | .invokespecial _ | .goto _ | .if_icmp _ _ | .ifCond _ _ | .ifnonnull _ | .iinc _ _ | .new _ | .anewarray _ | .getstatic _ => 3
  | .multianewarray _ _ => 4
  | _ => 1
/-- the script's k-th int, its length: told by sp -/
def z_sv (sp : Nat → Nat) (k : Nat) : Int := (Int32.ofNat (sp (600002 + k))).toInt
section ZOne
variable (sp : Nat → Nat) (rz : Bool) (hd : List (Nat × Nat)) (C : Bool → Nat → List z_Av → z_M → Bool → z_Ot → z_M → Prop) (J : Nat → z_P → z_L → List z_Av → z_M → Prop) (X : Bool → z_Ot → z_M → Prop)
/-- a call's end in the caller -/
def z_back (k : z_P → z_L → List z_Av → z_M → Prop) (ph : Bool) (L : z_L) (r : List z_Av) (M1 : z_M) (o1 : z_Ot) : Prop := match o1 with
  | .inl v => k (ph, 0) L (v.toList ++ r) M1
  | .inr e => match hd.lookup e with
    | some h => (∀ v ∈ L, v ≠ some (z_r (some 400000))) ∧ J h (ph, 0) L [z_r (some 400000)] M1
    | none => hd = [] ∧ X ph (.inr e) M1
def z_call (G : List z_Av → Prop) (k : z_P → z_L → List z_Av → z_M → Prop) (j n : Nat) (P : z_P) (L : z_L) (S : List z_Av) (M : z_M) : Prop :=
  ∃ As r o1 M1 ph ph1, S = As ++ r ∧ As.length = n ∧ G As.reverse ∧ (ph = P.1 ∨ (ph = true ∧ z_KL.length ≤ z_n M)) ∧ C ph j As.reverse M ph1 o1 M1 ∧ (r.map z_cat).sum ≤ 8 ∧ z_back hd J X k ph1 L r M1 o1
def z_one (i : z_In) (P : z_P) (L : z_L) (S : List z_Av) (M : z_M) (k : z_P → z_L → List z_Av → z_M → Prop) : Prop := match i.1 with
  | .iconst n => k P L (z_i n :: S) M
  | .bipush n => k P L (z_i n :: S) M
  | .sipush n => k P L (z_i n :: S) M
  | .lconst n => k P L (z_l (n : Nat) :: S) M
  | .ldc _ => if i.2.2.1 = 1 then i.2.2.2.1 < 5 ∧ k P L (z_r (some (500000 + i.2.2.2.1)) :: S) M else k P L (z_i i.2.2.2.2 :: S) M
  | .ldc_w _ => k P L (z_i i.2.2.2.2 :: S) M
  | .ldc2_w _ => k P L (z_l i.2.2.2.2 :: S) M
  | .iload n => ∃ x, L[n]? = some (some (z_i x)) ∧ k P L (z_i x :: S) M
  | .iload_n n => ∃ x, L[(n : Nat)]? = some (some (z_i x)) ∧ k P L (z_i x :: S) M
  | .lload n => ∃ x, L[n]? = some (some (z_l x)) ∧ k P L (z_l x :: S) M
  | .lload_n n => ∃ x, L[(n : Nat)]? = some (some (z_l x)) ∧ k P L (z_l x :: S) M
  | .aload n => ∃ x, L[n]? = some (some (z_r (some x))) ∧ k P L (z_r (some x) :: S) M
  | .aload_n n => ∃ x, L[(n : Nat)]? = some (some (z_r (some x))) ∧ k P L (z_r (some x) :: S) M
  | .istore n => ∃ x r, S = z_i x :: r ∧ n < L.length ∧ k P (z_st1 L n (z_i x)) r M
  | .istore_n n => ∃ x r, S = z_i x :: r ∧ (n : Nat) < L.length ∧ k P (z_st1 L n (z_i x)) r M
  | .lstore n => ∃ x r, S = z_l x :: r ∧ n + 1 < L.length ∧ k P (z_st2 L n (z_l x)) r M
  | .lstore_n n => ∃ x r, S = z_l x :: r ∧ (n : Nat) + 1 < L.length ∧ k P (z_st2 L n (z_l x)) r M
  | .astore n => ∃ x r, S = z_r (some x) :: r ∧ n < L.length ∧ k P (z_st1 L n (z_r (some x))) r M
  | .astore_n n => ∃ x r, S = z_r (some x) :: r ∧ (n : Nat) < L.length ∧ k P (z_st1 L n (z_r (some x))) r M
  | .iinc n d => ∃ x, L[n]? = some (some (z_i x)) ∧ k P (z_st1 L n (z_i (x + d))) S M
  | .iadd => ∃ x y r, S = z_i y :: z_i x :: r ∧ k P L (z_i (x + y) :: r) M
  | .isub => ∃ x y r, S = z_i y :: z_i x :: r ∧ k P L (z_i (x - y) :: r) M
  | .imul => ∃ x y r, S = z_i y :: z_i x :: r ∧ k P L (z_i (x * y) :: r) M
  | .ineg => ∃ x r, S = z_i x :: r ∧ k P L (z_i (-x) :: r) M
  | .idiv => ∃ x y r, S = z_i y :: z_i x :: r ∧ z_w y ≠ 0 ∧ k P L (z_i (Int32.ofInt x / Int32.ofInt y).toInt :: r) M
  | .irem => ∃ x y r, S = z_i y :: z_i x :: r ∧ z_w y ≠ 0 ∧ k P L (z_i (Int32.ofInt x - Int32.ofInt x / Int32.ofInt y * Int32.ofInt y).toInt :: r) M
  | .iand => ∃ x y r, S = z_i y :: z_i x :: r ∧ k P L (z_i (Int32.ofInt x &&& Int32.ofInt y).toInt :: r) M
  | .ior => ∃ x y r, S = z_i y :: z_i x :: r ∧ k P L (z_i (Int32.ofInt x ||| Int32.ofInt y).toInt :: r) M
  | .ixor => ∃ x y r, S = z_i y :: z_i x :: r ∧ k P L (z_i (Int32.ofInt x ^^^ Int32.ofInt y).toInt :: r) M
  | .ishl => ∃ x y r, S = z_i y :: z_i x :: r ∧ k P L (z_i (Int32.ofInt x <<< (Int32.ofInt y &&& 31)).toInt :: r) M
  | .ishr => ∃ x y r, S = z_i y :: z_i x :: r ∧ k P L (z_i (Int32.ofInt x >>> (Int32.ofInt y &&& 31)).toInt :: r) M
  | .iushr => ∃ x y r, S = z_i y :: z_i x :: r ∧ k P L (z_i ((Int32.ofInt x).toUInt32 >>> ((Int32.ofInt y).toUInt32 &&& Int32.toUInt32 31)).toInt32.toInt :: r) M
  | .ladd => ∃ x y r, S = z_l y :: z_l x :: r ∧ k P L (z_l (x + y) :: r) M
  | .lsub => ∃ x y r, S = z_l y :: z_l x :: r ∧ k P L (z_l (x - y) :: r) M
  | .lmul => ∃ x y r, S = z_l y :: z_l x :: r ∧ k P L (z_l (x * y) :: r) M
  | .lneg => ∃ x r, S = z_l x :: r ∧ k P L (z_l (-x) :: r) M
  | .ldiv => ∃ x y r, S = z_l y :: z_l x :: r ∧ z_wl y ≠ 0 ∧ k P L (z_l (Int64.ofInt x / Int64.ofInt y).toInt :: r) M
  | .lrem => ∃ x y r, S = z_l y :: z_l x :: r ∧ z_wl y ≠ 0 ∧ k P L (z_l (Int64.ofInt x - Int64.ofInt x / Int64.ofInt y * Int64.ofInt y).toInt :: r) M
  | .land => ∃ x y r, S = z_l y :: z_l x :: r ∧ k P L (z_l (Int64.ofInt x &&& Int64.ofInt y).toInt :: r) M
  | .lor => ∃ x y r, S = z_l y :: z_l x :: r ∧ k P L (z_l (Int64.ofInt x ||| Int64.ofInt y).toInt :: r) M
  | .lshl => ∃ x y r, S = z_i y :: z_l x :: r ∧ k P L (z_l (Int64.ofInt x <<< ((Int32.ofInt y).toInt64 &&& 63)).toInt :: r) M
  | .lshr => ∃ x y r, S = z_i y :: z_l x :: r ∧ k P L (z_l (Int64.ofInt x >>> ((Int32.ofInt y).toInt64 &&& 63)).toInt :: r) M
  | .lcmp => ∃ x y r, S = z_l y :: z_l x :: r ∧ k P L (z_i (lg_cmp (Int64.ofInt x) (Int64.ofInt y)).toInt :: r) M
  | .i2l => ∃ x r, S = z_i x :: r ∧ k P L (z_l (z_w x) :: r) M
  | .l2i => ∃ x r, S = z_l x :: r ∧ k P L (z_i x :: r) M
  | .dup => ∃ v r, S = v :: r ∧ z_c1 v = true ∧ k P L (v :: v :: r) M
  | .dup2 => ∃ v w r, S = v :: w :: r ∧ z_c1 v = true ∧ z_c1 w = true ∧ k P L (v :: w :: v :: w :: r) M
  | .pop => ∃ v r, S = v :: r ∧ z_c1 v = true ∧ k P L r M
  | .goto off => J (z_tg i off) P L S M
  | .if_icmp c off => ∃ x y r, S = z_i y :: z_i x :: r ∧ (z_cmp c x y → J (z_tg i off) P L r M) ∧ (¬ z_cmp c x y → k P L r M)
  | .ifCond c off => ∃ x r, S = z_i x :: r ∧ (z_cmp c x 0 → J (z_tg i off) P L r M) ∧ (¬ z_cmp c x 0 → k P L r M)
  | .ifnonnull off => ∃ x r, S = z_r (some x) :: r ∧ J (z_tg i off) P L r M
  | .tableswitch d lo hi offs => ∃ x r, S = z_i x :: r ∧ ((z_w x < lo ∨ hi < z_w x) → J (z_tg i d) P L r M) ∧ (¬ z_w x < lo → ¬ hi < z_w x → ∃ off, offs[(z_w x - lo).toNat]? = some off ∧ J (z_tg i off) P L r M)
  | .ireturn => ∃ x, S = [z_i x] ∧ (rz = true → x = 0 ∨ x = 1) ∧ X P.1 (.inl (some (z_i x))) M
  | .lreturn => ∃ x, S = [z_l x] ∧ X P.1 (.inl (some (z_l x))) M
  | .return_ => S = [] ∧ X P.1 (.inl none) M
  | .getfield _ => ∃ a r, S = z_r (some a) :: r ∧ z_kd P M a = (i.2.2.1, 0) ∧ k P L (z_fv i.2.2.1 i.2.2.2.1 M a :: r) M
  | .putfield _ => (∃ a x r, S = z_i x :: z_r (some a) :: r ∧ z_kd P M a = (i.2.2.1, 0) ∧ (z_FT i.2.2.1 i.2.2.2.1 = 1 ∨ (z_FT i.2.2.1 i.2.2.2.1 = 2 ∧ (x = 0 ∨ x = 1))) ∧ k P L r (z_setI M a i.2.2.2.1 x)) ∨
      (∃ a b r, S = z_r (some b) :: z_r (some a) :: r ∧ z_kd P M a = (i.2.2.1, 0) ∧ z_FT i.2.2.1 i.2.2.2.1 = 0 ∧ b < 300000 ∧ k P L r (z_setR M a i.2.2.2.1 (some b)))
  | .iaload => (∃ a x r n, S = z_i x :: z_r (some a) :: r ∧ z_kd P M a = (100, n) ∧ 0 ≤ x ∧ x < (n : Int) ∧ k P L (z_i (z_I M a x.toNat) :: r) M) ∨
      (∃ x r, S = z_i x :: z_r (some 600000) :: r ∧ 0 ≤ x ∧ x < (sp 600001 : Int) ∧ sp 600001 ≤ 1000000 ∧ k P L (z_i (z_sv sp x.toNat) :: r) M)
  | .laload => ∃ a x r n, S = z_i x :: z_r (some a) :: r ∧ z_kd P M a = (101, n) ∧ 0 ≤ x ∧ x < (n : Int) ∧ k P L (z_l (z_J M a x.toNat) :: r) M
  | .aaload => ∃ a x r t n, S = z_i x :: z_r (some a) :: r ∧ z_kd P M a = (t, n) ∧ (t = 102 ∨ t = 103) ∧ 0 ≤ x ∧ x < (n : Int) ∧ k P L (z_r (z_R M a x.toNat) :: r) M
  | .iastore => ∃ a x v r n, S = z_i v :: z_i x :: z_r (some a) :: r ∧ z_kd P M a = (100, n) ∧ 0 ≤ x ∧ x < (n : Int) ∧ k P L r (z_setI M a x.toNat v)
  | .lastore => ∃ a x v r n, S = z_l v :: z_i x :: z_r (some a) :: r ∧ z_kd P M a = (101, n) ∧ 0 ≤ x ∧ x < (n : Int) ∧ k P L r (z_setJ M a x.toNat v)
  | .aastore => ∃ a x b r n, S = z_r (some b) :: z_i x :: z_r (some a) :: r ∧ z_kd P M a = (103, n) ∧ z_kd P M b = (5, 0) ∧ 0 ≤ x ∧ x < (n : Int) ∧ b < 300000 ∧ k P L r (z_setR M a x.toNat (some b))
  | .arraylength => (∃ a r t n, S = z_r (some a) :: r ∧ z_kd P M a = (t, n) ∧ 100 ≤ t ∧ t ≤ 103 ∧ k P L (z_i (n : Int) :: r) M) ∨
      (∃ r, S = z_r (some 600000) :: r ∧ k P L (z_i (sp 600001 : Int) :: r) M)
  | .newarray t => (∃ (x : Nat) (r : List z_Av), S = z_i (x : Int) :: r ∧ P.1 = false ∧ x ≤ 1000000 ∧ z_n M < z_KL.length ∧ t = .int ∧ z_KL.getD (z_n M) (98, 0) = (100, x) ∧ k P L (z_r (some (z_n M)) :: r) (z_n M + 1, z_s M + x, z_R M, z_row (z_I M) (z_n M) (fun _ => 0), z_J M)) ∨
      (∃ (x : Nat) (r : List z_Av), S = z_i (x : Int) :: r ∧ P.1 = false ∧ x ≤ 1000000 ∧ z_n M < z_KL.length ∧ t = .long ∧ z_KL.getD (z_n M) (98, 0) = (101, x) ∧ k P L (z_r (some (z_n M)) :: r) (z_n M + 1, z_s M + x, z_R M, z_I M, z_row (z_J M) (z_n M) (fun _ => 0))) ∨
      (∃ (x : Nat) (r : List z_Av), S = z_i (x : Int) :: r ∧ P.1 = true ∧ 0 < x ∧ x ≤ 1000000 ∧ t = .int ∧ (∀ v ∈ r, v ≠ z_r (some 300000)) ∧ (∀ v ∈ L, v ≠ some (z_r (some 300000))) ∧ k (true, x) L (z_r (some 300000) :: r) (z_n M + 1, z_s M + x, z_R M, z_row (z_I M) 300000 (fun _ => 0), z_J M))
  | .anewarray _ => ∃ (x : Nat) (r : List z_Av), S = z_i (x : Int) :: r ∧ P.1 = false ∧ x ≤ 1000000 ∧ z_n M < z_KL.length ∧ z_KL.getD (z_n M) (98, 0) = (103, x) ∧ k P L (z_r (some (z_n M)) :: r) (z_n M + 1, z_s M + x, z_row (z_R M) (z_n M) (fun _ => none), z_I M, z_J M)
  | .multianewarray _ _ => ∃ (x y : Nat) (r : List z_Av), S = z_i (y : Int) :: z_i (x : Int) :: r ∧ P.1 = false ∧ x ≤ 1000 ∧ y ≤ 1000 ∧ z_n M + x < z_KL.length ∧ z_KL.getD (z_n M) (98, 0) = (102, x) ∧ (∀ j, j < x → z_KL.getD (z_n M + 1 + j) (98, 0) = (100, y)) ∧
      k P L (z_r (some (z_n M)) :: r) (z_n M + 1 + x, z_s M + x + x * y, z_row (z_R M) (z_n M) (fun j => if j < x then some (z_n M + 1 + j) else none), (fun a j => if z_n M < a ∧ a ≤ z_n M + x then 0 else z_I M a j), z_J M)
  | .new _ => if i.2.2.1 < 50 then P.1 = false ∧ z_n M < z_KL.length ∧ z_KL.getD (z_n M) (98, 0) = (i.2.2.1, 0) ∧ k P L (z_r (some (z_n M)) :: S) (z_n M + 1, z_s M + z_FN i.2.2.1, z_row (z_R M) (z_n M) (fun _ => none), z_row (z_I M) (z_n M) (fun _ => 0), z_J M)
      else P.1 = true ∧ (S.map z_cat).sum ≤ 8 ∧ X true (.inr (i.2.2.1 - 60)) (z_n M + 1, z_s M + 6, z_R M, z_I M, z_J M)
  | .invokestatic _ => z_call hd C J X (fun _ => True) k i.2.2.1 i.2.2.2.1 P L S M
  | .invokevirtual _ => z_call hd C J X (fun As => (900 ≤ i.2.2.1 ∧ ∃ k v, k < 5 ∧ As = z_r (some (500000 + k)) :: v) ∨ i.2.2.1 < 900 ∧ ∃ a v, As = z_r (some a) :: v ∧ z_kd P M a = (i.2.2.2.2.toNat % 16, 0)) k i.2.2.1 (i.2.2.2.1 + 1) P L S M
  | .invokespecial _ => if i.2.2.1 = 999 then ∃ a r, S = z_r (some a) :: r ∧ (r.map z_cat).sum ≤ 8 ∧ k P L r M else z_call [] C (fun _ _ _ _ _ => False) (fun _ _ _ => False) (fun As => ∃ a v, As = z_r (some a) :: v) k i.2.2.1 (i.2.2.2.1 + 1) P L S M
  | _ => False
/-- a block: its instructions, then on to the place nx -/
def z_blk : List z_In → Nat → z_P → z_L → List z_Av → z_M → Prop
  | [], nx, P, L, S, M => J nx P L S M
  | i :: is, nx, P, L, S, M => z_one sp rz hd C J X i P L S M (fun P L S M => z_blk is nx P L S M)
end ZOne
/-- a method's blocks by their first places: which locals are still known, the instructions, the place behind -/
abbrev z_Cd : Type := Nat → Option (List Bool × List z_In × Nat)
def z_msk : List Bool → z_L → z_L
  | true :: bs, v :: vs => v :: z_msk bs vs
  | false :: bs, _ :: vs => none :: z_msk bs vs
  | _, _ => []
def z_run (sp : Nat → Nat) (rz : Bool) (hd : List (Nat × Nat)) (C : Bool → Nat → List z_Av → z_M → Bool → z_Ot → z_M → Prop) (cd : z_Cd) (X : Bool → z_Ot → z_M → Prop) : Nat → Nat → z_P → z_L → List z_Av → z_M → Prop
  | 0, _, _, _, _, _ => False
  | n + 1, t, P, L, S, M => ∃ b P', cd t = some b ∧ (P' = P ∨ (P' = (true, 0) ∧ z_KL.length ≤ z_n M)) ∧ z_blk sp rz hd C (z_run sp rz hd C cd X n) X b.2.1 b.2.2 P' (z_msk b.1 L) S M
/-- the arguments in their places, of nL in all -/
def z_ent : Nat → List z_Av → z_L
  | n, [] => List.replicate n none
  | n, v :: vs => if z_cat v = 2 then some v :: none :: z_ent (n - 2) vs else some v :: z_ent (n - 1) vs
/-- a call: at most d calls deep, beginning in a phase (false: the world is being made), ending in one; j = 900, 901: String.length, charAt of the five words -/
def z_Txt : List (List Int) := [[114, 111, 119, 115], [97, 112, 97, 114, 116], [116, 111, 114, 110], [108, 97, 119], [108, 97, 99, 101]]
def z_Prim (j : Nat) (As : List z_Av) (o : z_Ot) : Prop :=
  (j = 900 ∧ ∃ k, k < 5 ∧ As = [z_r (some (500000 + k))] ∧ o = .inl (some (z_i ((z_Txt.getD k []).length : Int)))) ∨
  (j = 901 ∧ ∃ k i, k < 5 ∧ i < (z_Txt.getD k []).length ∧ As = [z_r (some (500000 + k)), z_i (i : Int)] ∧ o = .inl (some (z_i ((z_Txt.getD k []).getD i 0))))
/-- a method: what it returns is a boolean; its handlers by exception; its blocks; how many locals -/
abbrev z_Md : Type := Bool × List (Nat × Nat) × z_Cd × Nat
def z_Run (sp : Nat → Nat) (mt : Nat → z_Md) : Nat → Bool → Nat → List z_Av → z_M → Bool → z_Ot → z_M → Prop
  | 0, _, _, _, _, _, _, _ => False
  | d + 1, ph, j, As, M, ph1, o, M1 => (z_Prim j As o ∧ ph1 = ph ∧ M1 = M) ∨
      (j < 900 ∧ (As.map z_cat).sum ≤ (mt j).2.2.2 ∧ ∃ n, z_run sp (mt j).1 (mt j).2.1 (z_Run sp mt d) (mt j).2.2.1 (fun ph' o' M' => ph' = ph1 ∧ o' = o ∧ M' = M1) n 0 (ph, 0) (z_ent (mt j).2.2.2 As) [] M)
