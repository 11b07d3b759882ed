/-! ===== AN INTERPRETER with typed references over the standing world: (tag, length, cell); tags below 50 a class, 100 .. 103 rows, 104 a word, 105 the script, 106 a caught exception, 107 a row of its own ===== -/
abbrev y_Bv : Type := Int ⊕ Int ⊕ Nat × Nat × Nat
abbrev y_bi (x : Int) : y_Bv := Sum.inl x
abbrev y_bl (x : Int) : y_Bv := Sum.inr (Sum.inl x)
abbrev y_bo (t n a : Nat) : y_Bv := Sum.inr (Sum.inr (t, n, a))
/-- cells made, slots made, the boot that stands, the other one, ints, longs -/
abbrev y_m : Type := Nat × Nat × Nat × Nat × (Nat → Nat → Int) × (Nat → Nat → Int)
def y_mI (m : y_m) : Nat → Nat → Int := m.2.2.2.2.1
def y_mJ (m : y_m) : Nat → Nat → Int := m.2.2.2.2.2
def y_mc (m : y_m) : Nat := m.2.2.1
def y_mx (m : y_m) : Nat := m.2.2.2.1
def y_sI (m : y_m) (a k : Nat) (x : Int) : y_m := (m.1, m.2.1, y_mc m, y_mx m, z_up (y_mI m) a k x, y_mJ m)
def y_sJ (m : y_m) (a k : Nat) (x : Int) : y_m := (m.1, m.2.1, y_mc m, y_mx m, y_mI m, z_up (y_mJ m) a k x)
def y_sB (m : y_m) (k b : Nat) : y_m := (m.1, m.2.1, (if k = 9 then b else y_mc m), (if k = 10 then b else y_mx m), y_mI m, y_mJ m)
def y_tm (m : y_m) : y_m := (m.1 + 1, m.2.1 + 6, y_mc m, y_mx m, y_mI m, y_mJ m)
def y_nm (m : y_m) (x : Nat) : y_m := (m.1 + 1, m.2.1 + x, y_mc m, y_mx m, z_row (y_mI m) 300000 (fun _ => 0), y_mJ m)
def y_RAL : List (List Nat) := [[], [7, 0, 0, 0, 0], [9, 10, 11, 12, 0, 0, 0], [], [4, 5, 0], [], [2, 0, 0, 0, 0, 0, 0], [14, 16, 0, 0, 0], [], [19, 0, 0], [1, 3, 6, 8, 13, 18, 20, 22, 28, 0, 0, 0, 0], [0, 0, 0, 0, 0, 0, 0, 0, 50, 51, 52, 53, 54, 0, 0, 0, 0, 0, 55, 62, 67, 71, 72, 73, 74, 75, 76, 83, 90, 91, 92, 93, 94, 0, 95, 96, 97, 98, 99, 100, 101, 102, 0, 0, 103, 0, 0]]
def y_RKL : List (List (Nat × Nat)) := [[], [(101, 1568), (98, 0), (98, 0), (98, 0), (98, 0)], [(101, 196608), (101, 4096), (101, 144), (100, 144), (98, 0), (98, 0), (98, 0)], [(100, 12), (98, 0), (98, 0)], [(101, 6), (101, 6), (98, 0)], [(8, 0), (3, 0), (100, 48), (98, 0)], [(100, 400), (98, 0), (98, 0), (98, 0), (98, 0), (98, 0), (98, 0)], [(8, 0), (3, 0), (98, 0), (98, 0), (98, 0)], [(100, 12), (98, 0)], [(100, 12), (98, 0), (98, 0)], [(6, 0), (4, 0), (1, 0), (2, 0), (7, 0), (9, 0), (8, 0), (5, 0), (103, 3), (0, 0), (0, 0), (98, 0), (98, 0)], [(98, 0), (98, 0), (98, 0), (98, 0), (98, 0), (98, 0), (98, 0), (98, 0), (100, 400), (100, 7), (100, 7), (100, 12), (100, 12), (98, 0), (98, 0), (98, 0), (98, 0), (98, 0), (102, 6), (102, 4), (102, 3), (101, 6), (101, 6), (100, 6), (100, 6), (100, 6), (102, 6), (102, 6), (100, 476), (100, 476), (100, 6), (101, 228), (100, 12), (98, 0), (101, 98304), (101, 98304), (100, 12), (100, 12), (101, 196608), (101, 4096), (100, 12), (100, 12), (98, 0), (98, 0), (100, 4), (98, 0), (98, 0)]]
def y_RTL : List Nat := [1, 1, 1, 1, 1, 1, 2, 1, 0, 2, 0, 0, 1, 0, 1, 0, 0, 1, 1, 1, 0, 0, 0, 1, 1, 0, 1, 1, 1, 0, 1, 0, 0, 0, 0, 0, 1, 0, 1, 1, 1, 1, 1, 1, 1, 1, 1, 1, 0, 0, 0, 2, 2, 2, 2, 2, 1, 1, 1, 1, 1, 0, 0, 0, 0, 1, 0, 1, 1, 0, 0, 1, 1, 1, 1, 1, 1, 1, 0, 0, 0, 1, 1, 1, 1, 0, 0, 0, 1, 1, 0, 2, 2, 1, 1, 0, 2, 2, 2, 2, 1, 1, 0, 0, 2, 2, 0, 0, 0, 0, 2, 0, 2, 1, 1, 0, 0, 0, 2, 2, 1, 1, 0, 1, 1, 1, 1, 1, 0, 0, 0, 0, 0, 0, 0, 0, 1, 1, 1, 1, 1, 1, 1, 1, 1, 2, 2, 1, 1, 1, 1, 1, 1, 1, 1, 1, 1, 1, 1, 1, 1, 1, 1, 1, 1, 1, 1, 1, 1, 1, 0, 0, 0, 1, 1, 2, 0, 0, 1, 1, 1, 1, 1, 0, 0, 1, 1, 1, 1, 1, 1, 0, 0, 1, 0, 1, 0, 1, 1, 1, 1, 1, 0, 0, 0, 1, 0, 0, 0, 1, 1, 1, 2, 1, 1, 1, 0, 1, 1, 1, 0, 1, 1, 1, 1, 1, 1, 1, 1, 1, 1, 1, 2, 1, 1, 0, 1, 1, 0, 2, 2, 1, 2, 2, 1, 1, 1, 0, 1, 2, 0, 2, 2, 2, 2, 1, 1, 1, 1, 0, 0, 0, 1, 1, 1, 1, 1, 1, 1, 0, 1, 1, 1, 1, 1, 1, 0, 1, 0, 1, 1, 1, 1, 1, 1, 1, 1, 1, 1, 1, 0, 1, 1, 1, 0, 1, 1, 1, 1, 1, 1, 1, 1, 1, 1, 1, 1, 1, 1, 1, 1, 1, 1, 1, 1, 1, 1, 1]
def y_rk (c k : Nat) : Nat × Nat := match c with
  | 8 => (100, 12)
  | 3 => (100, 12)
  | 5 => (match k with
    | 0 => (8, 0)
    | 1 => (3, 0)
    | _ => (100, 48))
  | _ => (y_RKL.getD c []).getD k (98, 0)
def y_ra0 (c k a : Nat) : Nat := match c with
  | 8 => a + 1
  | 3 => a + 1
  | 5 => (match k with
    | 0 => a + 1
    | 1 => a + 3
    | _ => a + 5)
  | _ => (y_RAL.getD c []).getD k 0
def y_ra (m : y_m) (c k a : Nat) : Nat := match c with
  | 10 => (match k with
    | 9 => y_mc m
    | 10 => y_mx m
    | _ => y_ra0 10 k a)
  | _ => y_ra0 c k a
/-- what a row of rows holds: tag, length, first cell, step -/
def y_rx (a : Nat) : Nat × Nat × Nat × Nat := match a with
  | 28 => (5, 0, 31, 6)
  | 55 => (100, 2, 56, 1)
  | 62 => (100, 13, 63, 1)
  | 67 => (100, 79, 68, 1)
  | 76 => (100, 228, 77, 1)
  | _ => (100, 228, 84, 1)
abbrev y_Rs : Type := Option (z_Ot × y_m)
def y_g (p : Prop) [Decidable p] (r : y_Rs) : y_Rs := if p then r else none
def y_bV (x : y_Rs) (k : y_m → y_Rs) (h : Nat → y_m → y_Rs) : y_Rs := match x with
  | some (.inl none, m) => k m
  | some (.inr e, m) => h e m
  | _ => none
def y_bI (x : y_Rs) (k : Int → y_m → y_Rs) (h : Nat → y_m → y_Rs) : y_Rs := match x with
  | some (.inl (some (.inl v)), m) => k v m
  | some (.inr e, m) => h e m
  | _ => none
def y_bL (x : y_Rs) (k : Int → y_m → y_Rs) (h : Nat → y_m → y_Rs) : y_Rs := match x with
  | some (.inl (some (.inr (.inl v))), m) => k v m
  | some (.inr e, m) => h e m
  | _ => none
def y_px (e : Nat) (m : y_m) : y_Rs := some (.inr e, m)
abbrev y_rI (x : Int) (m : y_m) : y_Rs := some (.inl (some (z_i x)), m)
abbrev y_rL (x : Int) (m : y_m) : y_Rs := some (.inl (some (z_l x)), m)
abbrev y_rV (m : y_m) : y_Rs := some (.inl none, m)
abbrev y_BL : Type := List (Option y_Bv)
def y_kil (L : y_BL) : Nat → y_BL
  | 0 => L
  | i + 1 => match L[i]? with
    | some (some (.inr (.inl _))) => L.set i none
    | _ => L
def y_p1 (L : y_BL) (i : Nat) (v : y_Bv) : y_BL := (y_kil L i).set i (some v)
def y_p2 (L : y_BL) (i : Nat) (v : y_Bv) : y_BL := ((y_kil L i).set i (some v)).set (i + 1) none
def y_mk : List Bool → y_BL → y_BL
  | true :: bs, v :: vs => v :: y_mk bs vs
  | false :: bs, _ :: vs => none :: y_mk bs vs
  | _, _ => []
def y_bc (v : y_Bv) : Nat := match v with
  | .inr (.inl _) => 2
  | _ => 1
def y_en : Nat → List y_Bv → y_BL
  | n, [] => List.replicate n none
  | n, v :: vs => match y_bc v with
    | 2 => some v :: none :: y_en (n - 2) vs
    | _ => some v :: y_en (n - 1) vs
def y_cs : List y_Bv → Nat
  | [] => 0
  | v :: r => y_bc v + y_cs r
/-- no caught exception, no row of its own -/
def y_no1 (v : y_Bv) : Bool := match v with
  | .inr (.inr (t, _, _)) => Nat.ble t 105
  | _ => true
def y_noS : List y_Bv → Bool
  | [] => true
  | v :: r => y_no1 v && y_noS r
def y_noL : y_BL → Bool
  | [] => true
  | some v :: r => y_no1 v && y_noL r
  | none :: r => y_noL r
def y_cD (c : Jvm.ClassFile.Cond) (x y : Int) : Decidable (z_cmp c x y) := match c with
  | .eq => inferInstanceAs (Decidable (z_w x = z_w y))
  | .ne => inferInstanceAs (Decidable (¬ z_w x = z_w y))
  | .lt => inferInstanceAs (Decidable (z_w x < z_w y))
  | .ge => inferInstanceAs (Decidable (z_w y ≤ z_w x))
  | .gt => inferInstanceAs (Decidable (z_w y < z_w x))
  | .le => inferInstanceAs (Decidable (z_w x ≤ z_w y))
def y_zD (c : Jvm.ClassFile.Cond) (x : Int) : Decidable (z_cz c x) := match c with
  | .eq => inferInstanceAs (Decidable (z_w x = 0))
  | .ne => inferInstanceAs (Decidable (¬ z_w x = 0))
  | .lt => inferInstanceAs (Decidable (z_w x < 0))
  | .ge => inferInstanceAs (Decidable (0 ≤ z_w x))
  | .gt => inferInstanceAs (Decidable (0 < z_w x))
  | .le => inferInstanceAs (Decidable (z_w x ≤ 0))
section ZInt
variable {α : Type}
def y_q2i (S : List y_Bv) (f : Int → Int → List y_Bv → Option α) : Option α := match S with
  | .inl y :: .inl x :: r => f x y r
  | _ => none
def y_q1i (S : List y_Bv) (f : Int → List y_Bv → Option α) : Option α := match S with
  | .inl x :: r => f x r
  | _ => none
def y_q2l (S : List y_Bv) (f : Int → Int → List y_Bv → Option α) : Option α := match S with
  | .inr (.inl y) :: .inr (.inl x) :: r => f x y r
  | _ => none
def y_q1l (S : List y_Bv) (f : Int → List y_Bv → Option α) : Option α := match S with
  | .inr (.inl x) :: r => f x r
  | _ => none
def y_qli (S : List y_Bv) (f : Int → Int → List y_Bv → Option α) : Option α := match S with
  | .inl y :: .inr (.inl x) :: r => f x y r
  | _ => none
def y_q1o (S : List y_Bv) (f : Nat → Nat → Nat → List y_Bv → Option α) : Option α := match S with
  | .inr (.inr (t, n, a)) :: r => f t n a r
  | _ => none
def y_l1i (L : y_BL) (n : Nat) (f : Int → Option α) : Option α := match L[n]? with
  | some (some (.inl x)) => f x
  | _ => none
def y_l1l (L : y_BL) (n : Nat) (f : Int → Option α) : Option α := match L[n]? with
  | some (some (.inr (.inl x))) => f x
  | _ => none
def y_l1o (L : y_BL) (n : Nat) (f : Nat → Nat → Nat → Option α) : Option α := match L[n]? with
  | some (some (.inr (.inr (t, k, a)))) => f t k a
  | _ => none
def y_bb2 (b : Bool) (r : Option α) : Option α := match b with
  | true => r
  | false => none
end ZInt
section ZInt2
variable (sp : Nat → Nat) (ph rz : Bool) (hd : List (Nat × Nat)) (C : Nat → List y_Bv → y_m → y_Rs) (J : Nat → y_BL → List y_Bv → y_m → y_Rs)
def y_hx (L : y_BL) (e : Nat) (m : y_m) : y_Rs := match hd with
  | [] => some (.inr e, m)
  | q :: r => match (q :: r).lookup e with
    | some t => y_bb2 (y_noL L) (J t L [y_bo 106 0 0] m)
    | none => none
def y_xc (k : y_BL → List y_Bv → y_m → y_Rs) (j n : Nat) (chk : List y_Bv → Bool) (L : y_BL) (S : List y_Bv) (m : y_m) : y_Rs :=
  y_bb2 (Nat.ble n S.length && chk (S.take n).reverse && Nat.ble (y_cs (S.drop n)) 8 && y_noS S && y_noL L)
    (match y_RTL.getD j 1 with
    | 0 => y_bV (C j (S.take n).reverse m) (fun m1 => k L (S.drop n) m1) (fun e m1 => y_hx hd J L e m1)
    | 1 => y_bI (C j (S.take n).reverse m) (fun v m1 => k L (y_bi v :: S.drop n) m1) (fun e m1 => y_hx hd J L e m1)
    | _ => y_bL (C j (S.take n).reverse m) (fun v m1 => k L (y_bl v :: S.drop n) m1) (fun e m1 => y_hx hd J L e m1))
def y_ckV (j c : Nat) (As : List y_Bv) : Bool := match As with
  | .inr (.inr (t, _, _)) :: _ => if Nat.ble 900 j then Nat.beq t 104 else Nat.beq t c && Nat.ble c 49
  | _ => false
def y_x1 (i : z_In) (L : y_BL) (S : List y_Bv) (m : y_m) (k : y_BL → List y_Bv → y_m → y_Rs) : y_Rs := match i.1 with
  | .iconst n => k L (y_bi n :: S) m
  | .bipush n => k L (y_bi n :: S) m
  | .sipush n => k L (y_bi n :: S) m
  | .lconst n => k L (y_bl (n : Nat) :: S) m
  | .ldc _ => (match i.2.2.1 with
    | 1 => y_bb2 (Nat.ble i.2.2.2.1 4) (k L (y_bo 104 0 i.2.2.2.1 :: S) m)
    | _ => k L (y_bi i.2.2.2.2 :: S) m)
  | .ldc_w _ => k L (y_bi i.2.2.2.2 :: S) m
  | .ldc2_w _ => k L (y_bl i.2.2.2.2 :: S) m
  | .iload n => y_l1i L n fun x => k L (y_bi x :: S) m
  | .iload_n n => y_l1i L n fun x => k L (y_bi x :: S) m
  | .lload n => y_l1l L n fun x => k L (y_bl x :: S) m
  | .lload_n n => y_l1l L n fun x => k L (y_bl x :: S) m
  | .aload n => y_l1o L n fun t l a => k L (y_bo t l a :: S) m
  | .aload_n n => y_l1o L n fun t l a => k L (y_bo t l a :: S) m
  | .istore n => y_q1i S fun x r => y_bb2 (Nat.blt n L.length) (k (y_p1 L n (y_bi x)) r m)
  | .istore_n n => y_q1i S fun x r => y_bb2 (Nat.blt n L.length) (k (y_p1 L n (y_bi x)) r m)
  | .lstore n => y_q1l S fun x r => y_bb2 (Nat.blt (n + 1) L.length) (k (y_p2 L n (y_bl x)) r m)
  | .lstore_n n => y_q1l S fun x r => y_bb2 (Nat.blt (n + 1) L.length) (k (y_p2 L n (y_bl x)) r m)
  | .astore n => y_q1o S fun t l a r => y_bb2 (Nat.blt n L.length) (k (y_p1 L n (y_bo t l a)) r m)
  | .astore_n n => y_q1o S fun t l a r => y_bb2 (Nat.blt n L.length) (k (y_p1 L n (y_bo t l a)) r m)
  | .iinc n d => y_l1i L n fun x => k (y_p1 L n (y_bi (x + d))) S m
  | .iadd => y_q2i S fun x y r => k L (y_bi (x + y) :: r) m
  | .isub => y_q2i S fun x y r => k L (y_bi (x - y) :: r) m
  | .imul => y_q2i S fun x y r => k L (y_bi (x * y) :: r) m
  | .ineg => y_q1i S fun x r => k L (y_bi (-x) :: r) m
  | .idiv => y_q2i S fun x y r => y_g (z_w y ≠ 0) (k L (y_bi (z_idiv x y) :: r) m)
  | .irem => y_q2i S fun x y r => y_g (z_w y ≠ 0) (k L (y_bi (z_irem x y) :: r) m)
  | .iand => y_q2i S fun x y r => k L (y_bi (z_iand x y) :: r) m
  | .ior => y_q2i S fun x y r => k L (y_bi (z_ior x y) :: r) m
  | .ixor => y_q2i S fun x y r => k L (y_bi (z_ixor x y) :: r) m
  | .ishl => y_q2i S fun x y r => k L (y_bi (z_ishl x y) :: r) m
  | .ishr => y_q2i S fun x y r => k L (y_bi (z_ishr x y) :: r) m
  | .iushr => y_q2i S fun x y r => k L (y_bi (z_iushr x y) :: r) m
  | .ladd => y_q2l S fun x y r => k L (y_bl (x + y) :: r) m
  | .lsub => y_q2l S fun x y r => k L (y_bl (x - y) :: r) m
  | .lmul => y_q2l S fun x y r => k L (y_bl (x * y) :: r) m
  | .lneg => y_q1l S fun x r => k L (y_bl (-x) :: r) m
  | .ldiv => y_q2l S fun x y r => y_g (z_wl y ≠ 0) (k L (y_bl (z_ldiv x y) :: r) m)
  | .lrem => y_q2l S fun x y r => y_g (z_wl y ≠ 0) (k L (y_bl (z_lrem x y) :: r) m)
  | .land => y_q2l S fun x y r => k L (y_bl (z_land x y) :: r) m
  | .lor => y_q2l S fun x y r => k L (y_bl (z_lor x y) :: r) m
  | .lshl => y_qli S fun x y r => k L (y_bl (z_lshl x y) :: r) m
  | .lshr => y_qli S fun x y r => k L (y_bl (z_lshr x y) :: r) m
  | .lcmp => y_q2l S fun x y r => k L (y_bi (z_lcmp x y) :: r) m
  | .i2l => y_q1i S fun x r => k L (y_bl (z_w x) :: r) m
  | .l2i => y_q1l S fun x r => k L (y_bi x :: r) m
  | .dup => (match S with
    | v :: r => y_bb2 (Nat.beq (y_bc v) 1) (k L (v :: v :: r) m)
    | _ => none)
  | .dup2 => (match S with
    | v :: w :: r => y_bb2 (Nat.beq (y_bc v) 1 && Nat.beq (y_bc w) 1) (k L (v :: w :: v :: w :: r) m)
    | _ => none)
  | .pop => (match S with
    | v :: r => y_bb2 (Nat.beq (y_bc v) 1) (k L r m)
    | _ => none)
  | .goto off => J (z_tg i off) L S m
  | .if_icmp c off => y_q2i S fun x y r => @ite _ (z_cmp c x y) (y_cD c x y) (J (z_tg i off) L r m) (k L r m)
  | .ifCond c off => y_q1i S fun x r => @ite _ (z_cz c x) (y_zD c x) (J (z_tg i off) L r m) (k L r m)
  | .ifnonnull off => y_q1o S fun _ _ _ r => J (z_tg i off) L r m
  | .tableswitch d lo hi offs => y_q1i S fun x r => if z_w x < lo ∨ hi < z_w x then J (z_tg i d) L r m else
      (match offs[(z_w x - lo).toNat]? with
      | some off => J (z_tg i off) L r m
      | none => none)
  | .ireturn => (match S with
    | [.inl x] => (match rz with
      | false => y_rI x m
      | true => y_g (x = 0 ∨ x = 1) (y_rI x m))
    | _ => none)
  | .lreturn => (match S with
    | [.inr (.inl x)] => y_rL x m
    | _ => none)
  | .return_ => (match S with
    | [] => y_rV m
    | _ => none)
  | .getfield _ => y_q1o S fun t _ a r => y_bb2 (Nat.beq t i.2.2.1 && Nat.ble t 49) (match z_FT i.2.2.1 i.2.2.2.1 with
    | 0 => k L (y_bo (y_rk i.2.2.1 i.2.2.2.1).1 (y_rk i.2.2.1 i.2.2.2.1).2 (y_ra m i.2.2.1 i.2.2.2.1 a) :: r) m
    | _ => k L (y_bi (y_mI m a i.2.2.2.1) :: r) m)
  | .putfield _ => (match S with
    | .inl x :: .inr (.inr (t, _, a)) :: r => y_bb2 (Nat.beq t i.2.2.1 && Nat.ble t 49) (match z_FT i.2.2.1 i.2.2.2.1 with
      | 1 => k L r (y_sI m a i.2.2.2.1 x)
      | 2 => y_g (x = 0 ∨ x = 1) (k L r (y_sI m a i.2.2.2.1 x))
      | _ => none)
    | .inr (.inr (u, _, b)) :: .inr (.inr (t, _, _)) :: r => y_bb2 (Nat.beq t 10 && Nat.beq i.2.2.1 10 && Nat.beq u 0 && (Nat.beq i.2.2.2.1 9 || Nat.beq i.2.2.2.1 10)) (k L r (y_sB m i.2.2.2.1 b))
    | _ => none)
  | .iaload => (match S with
    | .inl x :: .inr (.inr (t, n, a)) :: r => (match t with
      | 100 => y_g (0 ≤ x ∧ x < (n : Int)) (k L (y_bi (y_mI m a x.toNat) :: r) m)
      | 105 => y_g (0 ≤ x ∧ x < (sp 600001 : Int) ∧ sp 600001 ≤ 1000000) (k L (y_bi (z_sv sp x.toNat) :: r) m)
      | 107 => y_g (0 ≤ x ∧ x < (n : Int)) (k L (y_bi (y_mI m 300000 x.toNat) :: r) m)
      | _ => none)
    | _ => none)
  | .laload => (match S with
    | .inl x :: .inr (.inr (t, n, a)) :: r => y_bb2 (Nat.beq t 101) (y_g (0 ≤ x ∧ x < (n : Int)) (k L (y_bl (y_mJ m a x.toNat) :: r) m))
    | _ => none)
  | .aaload => (match S with
    | .inl x :: .inr (.inr (t, n, a)) :: r => y_bb2 (Nat.beq t 102 || Nat.beq t 103) (y_g (0 ≤ x ∧ x < (n : Int)) (k L (y_bo (y_rx a).1 (y_rx a).2.1 ((y_rx a).2.2.1 + (y_rx a).2.2.2 * x.toNat) :: r) m))
    | _ => none)
  | .iastore => (match S with
    | .inl v :: .inl x :: .inr (.inr (t, n, a)) :: r => (match t with
      | 100 => y_g (0 ≤ x ∧ x < (n : Int)) (k L r (y_sI m a x.toNat v))
      | 107 => y_g (0 ≤ x ∧ x < (n : Int)) (k L r (y_sI m 300000 x.toNat v))
      | _ => none)
    | _ => none)
  | .lastore => (match S with
    | .inr (.inl v) :: .inl x :: .inr (.inr (t, n, a)) :: r => y_bb2 (Nat.beq t 101) (y_g (0 ≤ x ∧ x < (n : Int)) (k L r (y_sJ m a x.toNat v)))
    | _ => none)
  | .arraylength => y_q1o S fun t n _ r => (match t with
    | 100 => k L (y_bi (n : Int) :: r) m
    | 101 => k L (y_bi (n : Int) :: r) m
    | 102 => k L (y_bi (n : Int) :: r) m
    | 103 => k L (y_bi (n : Int) :: r) m
    | 107 => k L (y_bi (n : Int) :: r) m
    | 105 => k L (y_bi (sp 600001 : Int) :: r) m
    | _ => none)
  | .newarray t => (match t with
    | .int => y_q1i S fun x r => y_bb2 (ph && y_noS r && y_noL L) (y_g (0 < x ∧ x ≤ 1000000) (k L (y_bo 107 x.toNat 300000 :: r) (y_nm m x.toNat)))
    | _ => none)
  | .new _ => y_bb2 (Nat.ble 50 i.2.2.1 && ph && Nat.ble (y_cs S) 8) (some (.inr (i.2.2.1 - 60), y_tm m))
  | .invokestatic _ => y_xc hd C J k i.2.2.1 i.2.2.2.1 (fun _ => true) L S m
  | .invokevirtual _ => y_xc hd C J k i.2.2.1 (i.2.2.2.1 + 1) (y_ckV i.2.2.1 (i.2.2.2.2.toNat % 16)) L S m
  | _ => none
def y_xb : List z_In → Nat → y_BL → List y_Bv → y_m → y_Rs
  | [], nx, L, S, m => J nx L S m
  | i :: is, nx, L, S, m => y_x1 sp ph rz hd C J i L S m (fun L S m => y_xb is nx L S m)
end ZInt2
/-- the locals that a place still knows -/
def y_mkt (md : z_Md) (t : Nat) (L : y_BL) : y_BL := match md.2.2.1 t with
  | some b => y_mk b.1 L
  | none => L
/-- a body with n blocks of fuel -/
def y_Rf (sp : Nat → Nat) (ph : Bool) (md : z_Md) (C : Nat → List y_Bv → y_m → y_Rs) : Nat → Nat → y_BL → List y_Bv → y_m → y_Rs
  | 0, _, _, _, _ => none
  | n + 1, t, L, S, m => match md.2.2.1 t with
    | none => none
    | some b => y_xb sp ph md.1 md.2.1 C (fun t' L' S' m' => y_Rf sp ph md C n t' (y_mkt md t' L') S' m') b.2.1 b.2.2 (y_mk b.1 L) S m
noncomputable def y_lim {α : Type} (f : Nat → Option α) : Option α := @dite _ (∃ n, ∃ r, f n = some r) (Classical.propDecidable _) (fun h => f (Classical.choose h)) (fun _ => none)
noncomputable def y_Rz (sp : Nat → Nat) (ph : Bool) (md : z_Md) (C : Nat → List y_Bv → y_m → y_Rs) (t : Nat) (L : y_BL) (S : List y_Bv) (m : y_m) : y_Rs := y_lim (fun n => y_Rf sp ph md C n t L S m)
def y_prm (j : Nat) (As : List y_Bv) (m : y_m) : y_Rs := match j, As with
  | 900, [.inr (.inr (104, _, k))] => y_bb2 (Nat.ble k 4) (y_rI ((z_Txt.getD k []).length : Int) m)
  | 901, [.inr (.inr (104, _, k)), .inl i] => y_bb2 (Nat.ble k 4) (y_g (0 ≤ i ∧ i < ((z_Txt.getD k []).length : Int)) (y_rI ((z_Txt.getD k []).getD i.toNat 0) m))
  | _, _ => none
noncomputable def y_V (sp : Nat → Nat) (ph : Bool) : Nat → Nat → List y_Bv → y_m → y_Rs
  | 0, _, _, _ => none
  | d + 1, j, As, m => match Nat.ble 900 j with
    | true => y_prm j As m
    | false => y_bb2 (Nat.ble (y_cs As) (z_mt j).2.2.2) (y_Rz sp ph (z_mt j) (y_V sp ph d) 0 (y_mkt (z_mt j) 0 (y_en (z_mt j).2.2.2 As)) [] m)
/-- a body, at a place -/
noncomputable def y_R (sp : Nat → Nat) (ph : Bool) (d j : Nat) (t : Nat) (L : y_BL) (S : List y_Bv) (m : y_m) : y_Rs := y_Rz sp ph (z_mt j) (y_V sp ph d) t L S m
/-! ===== the equations ===== -/
def y_T3 (A : (Nat → y_BL → List y_Bv → y_m → y_Rs) → (y_BL → List y_Bv → y_m → y_Rs) → y_Rs) : Prop :=
  (∃ r, ∀ J k, A J k = r) ∨ (∃ t L S m, ∀ J k, A J k = J t L S m) ∨ (∃ L S m, ∀ J k, A J k = k L S m)
theorem y_T3_c {r : y_Rs} : y_T3 (fun _ _ => r) := Or.inl ⟨r, fun _ _ => rfl⟩
theorem y_T3_J {t : Nat} {L : y_BL} {S : List y_Bv} {m : y_m} : y_T3 (fun J _ => J t L S m) := Or.inr (Or.inl ⟨t, L, S, m, fun _ _ => rfl⟩)
theorem y_T3_k {L : y_BL} {S : List y_Bv} {m : y_m} : y_T3 (fun _ k => k L S m) := Or.inr (Or.inr ⟨L, S, m, fun _ _ => rfl⟩)
section ZT3
variable {A B : (Nat → y_BL → List y_Bv → y_m → y_Rs) → (y_BL → List y_Bv → y_m → y_Rs) → y_Rs}
theorem y_T3_bb {b : Bool} (h : y_T3 A) : y_T3 (fun J k => y_bb2 b (A J k)) := by
  cases b
  · exact y_T3_c
  · exact h
theorem y_T3_g {p : Prop} [Decidable p] (h : y_T3 A) : y_T3 (fun J k => y_g p (A J k)) := by
  unfold y_g
  by_cases hp : p
  · simp only [if_pos hp]; exact h
  · simp only [if_neg hp]; exact y_T3_c
theorem y_T3_ite {p : Prop} {q : Decidable p} (h : y_T3 A) (h' : y_T3 B) : y_T3 (fun J k => @ite _ p q (A J k) (B J k)) := by
  by_cases hp : p
  · simp only [if_pos hp]; exact h
  · simp only [if_neg hp]; exact h'
theorem y_T3_q2i {S : List y_Bv} {f : (Nat → y_BL → List y_Bv → y_m → y_Rs) → (y_BL → List y_Bv → y_m → y_Rs) → Int → Int → List y_Bv → y_Rs} (h : ∀ x y r, y_T3 (fun J k => f J k x y r)) : y_T3 (fun J k => y_q2i S (f J k)) := by
  unfold y_q2i; split
  · exact h _ _ _
  · exact y_T3_c
theorem y_T3_q1i {S : List y_Bv} {f : (Nat → y_BL → List y_Bv → y_m → y_Rs) → (y_BL → List y_Bv → y_m → y_Rs) → Int → List y_Bv → y_Rs} (h : ∀ x r, y_T3 (fun J k => f J k x r)) : y_T3 (fun J k => y_q1i S (f J k)) := by
  unfold y_q1i; split
  · exact h _ _
  · exact y_T3_c
theorem y_T3_q2l {S : List y_Bv} {f : (Nat → y_BL → List y_Bv → y_m → y_Rs) → (y_BL → List y_Bv → y_m → y_Rs) → Int → Int → List y_Bv → y_Rs} (h : ∀ x y r, y_T3 (fun J k => f J k x y r)) : y_T3 (fun J k => y_q2l S (f J k)) := by
  unfold y_q2l; split
  · exact h _ _ _
  · exact y_T3_c
theorem y_T3_q1l {S : List y_Bv} {f : (Nat → y_BL → List y_Bv → y_m → y_Rs) → (y_BL → List y_Bv → y_m → y_Rs) → Int → List y_Bv → y_Rs} (h : ∀ x r, y_T3 (fun J k => f J k x r)) : y_T3 (fun J k => y_q1l S (f J k)) := by
  unfold y_q1l; split
  · exact h _ _
  · exact y_T3_c
theorem y_T3_qli {S : List y_Bv} {f : (Nat → y_BL → List y_Bv → y_m → y_Rs) → (y_BL → List y_Bv → y_m → y_Rs) → Int → Int → List y_Bv → y_Rs} (h : ∀ x y r, y_T3 (fun J k => f J k x y r)) : y_T3 (fun J k => y_qli S (f J k)) := by
  unfold y_qli; split
  · exact h _ _ _
  · exact y_T3_c
theorem y_T3_q1o {S : List y_Bv} {f : (Nat → y_BL → List y_Bv → y_m → y_Rs) → (y_BL → List y_Bv → y_m → y_Rs) → Nat → Nat → Nat → List y_Bv → y_Rs} (h : ∀ t n a r, y_T3 (fun J k => f J k t n a r)) : y_T3 (fun J k => y_q1o S (f J k)) := by
  unfold y_q1o; split
  · exact h _ _ _ _
  · exact y_T3_c
theorem y_T3_l1i {L : y_BL} {n : Nat} {f : (Nat → y_BL → List y_Bv → y_m → y_Rs) → (y_BL → List y_Bv → y_m → y_Rs) → Int → y_Rs} (h : ∀ x, y_T3 (fun J k => f J k x)) : y_T3 (fun J k => y_l1i L n (f J k)) := by
  unfold y_l1i; split
  · exact h _
  · exact y_T3_c
theorem y_T3_l1l {L : y_BL} {n : Nat} {f : (Nat → y_BL → List y_Bv → y_m → y_Rs) → (y_BL → List y_Bv → y_m → y_Rs) → Int → y_Rs} (h : ∀ x, y_T3 (fun J k => f J k x)) : y_T3 (fun J k => y_l1l L n (f J k)) := by
  unfold y_l1l; split
  · exact h _
  · exact y_T3_c
theorem y_T3_l1o {L : y_BL} {n : Nat} {f : (Nat → y_BL → List y_Bv → y_m → y_Rs) → (y_BL → List y_Bv → y_m → y_Rs) → Nat → Nat → Nat → y_Rs} (h : ∀ t n a, y_T3 (fun J k => f J k t n a)) : y_T3 (fun J k => y_l1o L n (f J k)) := by
  unfold y_l1o; split
  · exact h _ _ _
  · exact y_T3_c
theorem y_T3_hx {hd : List (Nat × Nat)} {L : y_BL} {e : Nat} {m : y_m} : y_T3 (fun J _ => y_hx hd J L e m) := by
  unfold y_hx
  cases hd with
  | nil => exact y_T3_c
  | cons q r =>
    dsimp only
    cases List.lookup e (q :: r) with
    | none => exact y_T3_c
    | some t => exact y_T3_bb y_T3_J
theorem y_T3_bV {x : y_Rs} {f : (Nat → y_BL → List y_Bv → y_m → y_Rs) → (y_BL → List y_Bv → y_m → y_Rs) → y_m → y_Rs} {h : (Nat → y_BL → List y_Bv → y_m → y_Rs) → (y_BL → List y_Bv → y_m → y_Rs) → Nat → y_m → y_Rs} (h1 : ∀ m, y_T3 (fun J k => f J k m)) (h2 : ∀ e m, y_T3 (fun J k => h J k e m)) : y_T3 (fun J k => y_bV x (f J k) (h J k)) := by
  unfold y_bV; split
  · exact h1 _
  · exact h2 _ _
  · exact y_T3_c
theorem y_T3_bI {x : y_Rs} {f : (Nat → y_BL → List y_Bv → y_m → y_Rs) → (y_BL → List y_Bv → y_m → y_Rs) → Int → y_m → y_Rs} {h : (Nat → y_BL → List y_Bv → y_m → y_Rs) → (y_BL → List y_Bv → y_m → y_Rs) → Nat → y_m → y_Rs} (h1 : ∀ v m, y_T3 (fun J k => f J k v m)) (h2 : ∀ e m, y_T3 (fun J k => h J k e m)) : y_T3 (fun J k => y_bI x (f J k) (h J k)) := by
  unfold y_bI; split
  · exact h1 _ _
  · exact h2 _ _
  · exact y_T3_c
theorem y_T3_bL {x : y_Rs} {f : (Nat → y_BL → List y_Bv → y_m → y_Rs) → (y_BL → List y_Bv → y_m → y_Rs) → Int → y_m → y_Rs} {h : (Nat → y_BL → List y_Bv → y_m → y_Rs) → (y_BL → List y_Bv → y_m → y_Rs) → Nat → y_m → y_Rs} (h1 : ∀ v m, y_T3 (fun J k => f J k v m)) (h2 : ∀ e m, y_T3 (fun J k => h J k e m)) : y_T3 (fun J k => y_bL x (f J k) (h J k)) := by
  unfold y_bL; split
  · exact h1 _ _
  · exact h2 _ _
  · exact y_T3_c
end ZT3
section ZEq
variable {sp : Nat → Nat} {ph rz : Bool} {hd : List (Nat × Nat)} {C : Nat → List y_Bv → y_m → y_Rs}
theorem y_T3_xc {j n : Nat} {chk : List y_Bv → Bool} {L : y_BL} {S : List y_Bv} {m : y_m} : y_T3 (fun J k => y_xc hd C J k j n chk L S m) := by
  unfold y_xc
  refine y_T3_bb ?_
  split
  · exact y_T3_bV (fun _ => y_T3_k) (fun _ _ => y_T3_hx)
  · exact y_T3_bI (fun _ _ => y_T3_k) (fun _ _ => y_T3_hx)
  · exact y_T3_bL (fun _ _ => y_T3_k) (fun _ _ => y_T3_hx)
theorem y_T3_x1 {i : z_In} {L : y_BL} {S : List y_Bv} {m : y_m} : y_T3 (fun J k => y_x1 sp ph rz hd C J i L S m k) := by
  obtain ⟨ins, pc, a, b, z⟩ := i
  unfold y_x1
  cases ins <;> dsimp only
  case ldc => split
              · exact y_T3_bb y_T3_k
              · exact y_T3_k
  case dup => split
              · exact y_T3_bb y_T3_k
              · exact y_T3_c
  case dup2 => split
               · exact y_T3_bb y_T3_k
               · exact y_T3_c
  case pop => split
              · exact y_T3_bb y_T3_k
              · exact y_T3_c
  case tableswitch =>
    refine y_T3_q1i fun x r => y_T3_ite y_T3_J ?_
    split
    · exact y_T3_J
    · exact y_T3_c
  case getfield =>
    refine y_T3_q1o fun t n o r => y_T3_bb ?_
    split
    · exact y_T3_k
    · exact y_T3_k
  case putfield =>
    split
    · refine y_T3_bb ?_
      split
      · exact y_T3_k
      · exact y_T3_g y_T3_k
      · exact y_T3_c
    · exact y_T3_bb y_T3_k
    · exact y_T3_c
  case iaload =>
    split
    · split
      · exact y_T3_g y_T3_k
      · exact y_T3_g y_T3_k
      · exact y_T3_g y_T3_k
      · exact y_T3_c
    · exact y_T3_c
  case iastore =>
    split
    · split
      · exact y_T3_g y_T3_k
      · exact y_T3_g y_T3_k
      · exact y_T3_c
    · exact y_T3_c
  case laload =>
    split
    · exact y_T3_bb (y_T3_g y_T3_k)
    · exact y_T3_c
  case aaload =>
    split
    · exact y_T3_bb (y_T3_g y_T3_k)
    · exact y_T3_c
  case lastore =>
    split
    · exact y_T3_bb (y_T3_g y_T3_k)
    · exact y_T3_c
  case arraylength =>
    refine y_T3_q1o fun t n o r => ?_
    split
    all_goals first | exact y_T3_k | exact y_T3_c
  case newarray t =>
    cases t <;> dsimp only
    all_goals first | exact y_T3_c | exact y_T3_q1i fun x r => y_T3_bb (y_T3_g y_T3_k)
  case ireturn => exact y_T3_c
  case lreturn => exact y_T3_c
  case return_ => exact y_T3_c
  case new => exact y_T3_c
  case invokestatic => exact y_T3_xc
  case invokevirtual => exact y_T3_xc
  case goto => exact y_T3_J
  case if_icmp => exact y_T3_q2i fun x y r => y_T3_ite y_T3_J y_T3_k
  case ifCond => exact y_T3_q1i fun x r => y_T3_ite y_T3_J y_T3_k
  case ifnonnull => exact y_T3_q1o fun _ _ _ r => y_T3_J
  all_goals first
    | exact y_T3_c
    | exact y_T3_k
    | exact y_T3_l1i fun _ => y_T3_k
    | exact y_T3_l1l fun _ => y_T3_k
    | exact y_T3_l1o fun _ _ _ => y_T3_k
    | exact y_T3_q1i fun _ _ => y_T3_k
    | exact y_T3_q2i fun _ _ _ => y_T3_k
    | exact y_T3_q1l fun _ _ => y_T3_k
    | exact y_T3_q2l fun _ _ _ => y_T3_k
    | exact y_T3_qli fun _ _ _ => y_T3_k
    | exact y_T3_q2i fun _ _ _ => y_T3_g y_T3_k
    | exact y_T3_q2l fun _ _ _ => y_T3_g y_T3_k
    | exact y_T3_q1i fun _ _ => y_T3_bb y_T3_k
    | exact y_T3_q1l fun _ _ => y_T3_bb y_T3_k
    | exact y_T3_q1o fun _ _ _ _ => y_T3_bb y_T3_k
/-- a block ends, or jumps -/
theorem y_T2_xb : ∀ (is : List z_In) (nx : Nat) (L : y_BL) (S : List y_Bv) (m : y_m), (∃ r, ∀ J, y_xb sp ph rz hd C J is nx L S m = r) ∨ (∃ t L' S' m', ∀ J, y_xb sp ph rz hd C J is nx L S m = J t L' S' m')
  | [], nx, L, S, m => Or.inr ⟨nx, L, S, m, fun _ => rfl⟩
  | i :: is, nx, L, S, m => by
    rcases y_T3_x1 (sp := sp) (ph := ph) (rz := rz) (hd := hd) (C := C) (i := i) (L := L) (S := S) (m := m) with ⟨r, h⟩ | ⟨t, L', S', m', h⟩ | ⟨L', S', m', h⟩
    · exact Or.inl ⟨r, fun J => h J _⟩
    · exact Or.inr ⟨t, L', S', m', fun J => h J _⟩
    · rcases y_T2_xb is nx L' S' m' with ⟨r, g⟩ | ⟨t, L2, S2, m2, g⟩
      · exact Or.inl ⟨r, fun J => (h J _).trans (g J)⟩
      · exact Or.inr ⟨t, L2, S2, m2, fun J => (h J _).trans (g J)⟩
theorem y_Rf_mono {md : z_Md} : ∀ (n t : Nat) (L : y_BL) (S : List y_Bv) (m : y_m) (r : z_Ot × y_m), y_Rf sp ph md C n t L S m = some r → y_Rf sp ph md C (n + 1) t L S m = some r := by
  intro n
  induction n with
  | zero => intro t L S m r h; cases h
  | succ n ih =>
    intro t L S m r h
    have h' : (match md.2.2.1 t with
      | none => none
      | some b => y_xb sp ph md.1 md.2.1 C (fun t' L' S' m' => y_Rf sp ph md C n t' (y_mkt md t' L') S' m') b.2.1 b.2.2 (y_mk b.1 L) S m) = some r := h
    show (match md.2.2.1 t with
      | none => none
      | some b => y_xb sp ph md.1 md.2.1 C (fun t' L' S' m' => y_Rf sp ph md C (n + 1) t' (y_mkt md t' L') S' m') b.2.1 b.2.2 (y_mk b.1 L) S m) = some r
    cases hb : md.2.2.1 t with
    | none => rw [hb] at h'; cases h'
    | some b =>
      rw [hb] at h'
      dsimp only at h' ⊢
      rcases y_T2_xb (sp := sp) (ph := ph) (rz := md.1) (hd := md.2.1) (C := C) b.2.1 b.2.2 (y_mk b.1 L) S m with ⟨r', g⟩ | ⟨t', L', S', m', g⟩
      · rw [g] at h' ⊢; exact h'
      · rw [g] at h' ⊢; exact ih _ _ _ _ _ h'
theorem y_lim_some {α : Type} {f : Nat → Option α} (hf : ∀ n r, f n = some r → f (n + 1) = some r) {n : Nat} {r : α} (h : f n = some r) : y_lim f = some r := by
  have hm : ∀ k n r, f n = some r → f (n + k) = some r := by
    intro k
    induction k with
    | zero => intro n r h; exact h
    | succ k ih => intro n r h; exact hf _ _ (ih n r h)
  have hx : ∃ n, ∃ r, f n = some r := ⟨n, r, h⟩
  unfold y_lim
  rw [dif_pos hx]
  obtain ⟨r', h'⟩ := Classical.choose_spec hx
  have a := hm n _ _ h'
  have b := hm (Classical.choose hx) _ _ h
  rw [Nat.add_comm, a] at b
  rw [h']; exact b
theorem y_lim_inv {α : Type} {f : Nat → Option α} {r : α} (h : y_lim f = some r) : ∃ n, f n = some r := by
  unfold y_lim at h
  by_cases hx : ∃ n, ∃ r, f n = some r
  · rw [dif_pos hx] at h; exact ⟨_, h⟩
  · rw [dif_neg hx] at h; cases h
theorem y_lim_eq {α : Type} {f g : Nat → Option α} (hg : ∀ n r, g n = some r → g (n + 1) = some r) (h0 : f 0 = none) (h : ∀ n, f (n + 1) = g n) : y_lim f = y_lim g := by
  have hf : ∀ n r, f n = some r → f (n + 1) = some r := by
    intro n r hr
    cases n with
    | zero => rw [h0] at hr; cases hr
    | succ n => rw [h] at hr ⊢; exact hg _ _ hr
  cases hl : y_lim g with
  | some r =>
    obtain ⟨n, hn⟩ := y_lim_inv hl
    exact y_lim_some hf ((h n).trans hn)
  | none =>
    cases hk : y_lim f with
    | none => rfl
    | some r =>
      obtain ⟨n, hn⟩ := y_lim_inv hk
      cases n with
      | zero => rw [h0] at hn; cases hn
      | succ n => rw [h] at hn; rw [y_lim_some hg hn] at hl; cases hl
theorem y_Rz_eq {md : z_Md} {t : Nat} {L : y_BL} {S : List y_Bv} {m : y_m} {b : List Bool × List z_In × Nat} (hb : md.2.2.1 t = some b) : y_Rz sp ph md C t L S m = y_xb sp ph md.1 md.2.1 C (fun t' L' S' m' => y_Rz sp ph md C t' (y_mkt md t' L') S' m') b.2.1 b.2.2 (y_mk b.1 L) S m := by
  have hs : ∀ n, y_Rf sp ph md C (n + 1) t L S m = y_xb sp ph md.1 md.2.1 C (fun t' L' S' m' => y_Rf sp ph md C n t' (y_mkt md t' L') S' m') b.2.1 b.2.2 (y_mk b.1 L) S m := by
    intro n
    show (match md.2.2.1 t with
      | none => none
      | some b => y_xb sp ph md.1 md.2.1 C (fun t' L' S' m' => y_Rf sp ph md C n t' (y_mkt md t' L') S' m') b.2.1 b.2.2 (y_mk b.1 L) S m) = _
    rw [hb]
  rcases y_T2_xb (sp := sp) (ph := ph) (rz := md.1) (hd := md.2.1) (C := C) b.2.1 b.2.2 (y_mk b.1 L) S m with ⟨r', g⟩ | ⟨t', L', S', m', g⟩
  · rw [g]
    cases r' with
    | some r => exact y_lim_some (fun n r => y_Rf_mono n t L S m r) (n := 1) ((hs 0).trans (g _))
    | none =>
      cases hk : y_Rz sp ph md C t L S m with
      | none => rfl
      | some r =>
        obtain ⟨n, hn⟩ := y_lim_inv hk
        cases n with
        | zero => cases hn
        | succ n => rw [hs, g] at hn; cases hn
  · rw [g]
    exact y_lim_eq (f := fun n => y_Rf sp ph md C n t L S m) (fun n r => y_Rf_mono n _ _ _ _ r) rfl (fun n => (hs n).trans (g _))
end ZEq
theorem y_R_eq {sp : Nat → Nat} {ph : Bool} {d j t : Nat} {L : y_BL} {S : List y_Bv} {m : y_m} {md : z_Md} {b : List Bool × List z_In × Nat} (hm : z_mt j = md) (hb : md.2.2.1 t = some b) : y_R sp ph d j t L S m = y_xb sp ph md.1 md.2.1 (y_V sp ph d) (fun t' L' S' m' => y_R sp ph d j t' (y_mkt md t' L') S' m') b.2.1 b.2.2 (y_mk b.1 L) S m := by
  subst hm
  exact y_Rz_eq hb
theorem y_V_eq {sp : Nat → Nat} {ph : Bool} {d j : Nat} {As : List y_Bv} {m : y_m} {md : z_Md} (hm : z_mt j = md) (hj : Nat.ble 900 j = false) (hc : Nat.ble (y_cs As) md.2.2.2 = true) : y_V sp ph (d + 1) j As m = y_R sp ph d j 0 (y_mkt md 0 (y_en md.2.2.2 As)) [] m := by
  subst hm
  show (match Nat.ble 900 j with
    | true => y_prm j As m
    | false => y_bb2 (Nat.ble (y_cs As) (z_mt j).2.2.2) (y_Rz sp ph (z_mt j) (y_V sp ph d) 0 (y_mkt (z_mt j) 0 (y_en (z_mt j).2.2.2 As)) [] m)) = _
  rw [hj, hc]
  rfl
