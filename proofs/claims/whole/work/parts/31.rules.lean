/-! ===== a block's instructions, one rule each ===== -/
def z_bb (sp : Nat → Nat) (rz : Bool) (hd : List (Nat × Nat)) (d j : Nat) (ph : Bool) (Q : z_Ot → z_M → Prop) (is : List z_In) (nx : Nat) (P : z_P) (L : z_L) (S : List z_Av) (M : z_M) : Prop :=
  z_blk sp rz hd (z_Run sp z_mt d) (z_go sp d j ph Q) (fun ph' o M' => ph' = ph ∧ Q o M') is nx P L S M
/-- how a call that gives an int, a long, nothing goes on; thrown: the handlers -/
def z_qI (f : Int → z_M → Prop) (g : Nat → z_M → Prop) : z_Ot → z_M → Prop := fun o M => match o with
  | .inl (some (.inl v)) => f v M
  | .inr e => g e M
  | _ => False
def z_qL (f : Int → z_M → Prop) (g : Nat → z_M → Prop) : z_Ot → z_M → Prop := fun o M => match o with
  | .inl (some (.inr (.inl v))) => f v M
  | .inr e => g e M
  | _ => False
def z_qV (f : z_M → Prop) (g : Nat → z_M → Prop) : z_Ot → z_M → Prop := fun o M => match o with
  | .inl none => f M
  | .inr e => g e M
  | _ => False
def z_hk (hd : List (Nat × Nat)) (e : Nat) (f : Nat → Prop) : Prop := match hd.lookup e with
  | some t => f t
  | none => False
def z_thM (M : z_M) : z_M := (z_n M + 1, z_s M + 6, z_R M, z_I M, z_J M)
theorem z_w0 : z_w 0 = 0 := by decide
def z_cz (c : Jvm.ClassFile.Cond) (x : Int) : Prop := match c with
  | .eq => z_w x = 0
  | .ne => ¬ z_w x = 0
  | .lt => z_w x < 0
  | .ge => 0 ≤ z_w x
  | .gt => 0 < z_w x
  | .le => z_w x ≤ 0
theorem z_cz_ok {c : Jvm.ClassFile.Cond} {x : Int} : z_cmp c x 0 ↔ z_cz c x := by
  cases c <;> simp only [z_cmp, z_cz, z_w0]
section ZRules
variable {sp : Nat → Nat} {rz : Bool} {hd : List (Nat × Nat)} {d j : Nat} {ph : Bool} {Q : z_Ot → z_M → Prop} {is : List z_In} {nx : Nat} {P : z_P} {L L' : z_L} {S r : List z_Av} {M : z_M}
variable {pc a b : Nat} {z x y : Int} {n : Nat} {off : Int} {t : Nat} {o f : Nat}
theorem z_go_bb {md : z_Md} {ms : List Bool} (hm : z_mt j = md) (hb : md.2.2.1 t = some (ms, is, nx)) (h : z_bb sp md.1 md.2.1 d j ph Q is nx P (z_msk ms L) S M) : z_go sp d j ph Q t P L S M := by
  subst hm
  exact z_ru_blk hb h
theorem z_k_end (h : z_go sp d j ph Q nx P L S M) : z_bb sp rz hd d j ph Q [] nx P L S M := h
theorem z_k_iconst {n : Int} (h : z_bb sp rz hd d j ph Q is nx P L (z_i n :: S) M) : z_bb sp rz hd d j ph Q ((.iconst n, pc, a, b, z) :: is) nx P L S M := h
theorem z_k_bipush {n : Int} (h : z_bb sp rz hd d j ph Q is nx P L (z_i n :: S) M) : z_bb sp rz hd d j ph Q ((.bipush n, pc, a, b, z) :: is) nx P L S M := h
theorem z_k_sipush {n : Int} (h : z_bb sp rz hd d j ph Q is nx P L (z_i n :: S) M) : z_bb sp rz hd d j ph Q ((.sipush n, pc, a, b, z) :: is) nx P L S M := h
theorem z_k_lconst0 (h : z_bb sp rz hd d j ph Q is nx P L (z_l 0 :: S) M) : z_bb sp rz hd d j ph Q ((.lconst 0, pc, a, b, z) :: is) nx P L S M := h
theorem z_k_lconst1 (h : z_bb sp rz hd d j ph Q is nx P L (z_l 1 :: S) M) : z_bb sp rz hd d j ph Q ((.lconst 1, pc, a, b, z) :: is) nx P L S M := h
theorem z_k_ldc {i : Nat} (h : z_bb sp rz hd d j ph Q is nx P L (z_i z :: S) M) : z_bb sp rz hd d j ph Q ((.ldc i, pc, 0, b, z) :: is) nx P L S M := h
theorem z_k_ldcS {i : Nat} (hb : b < 5) (h : z_bb sp rz hd d j ph Q is nx P L (z_r (some (500000 + b)) :: S) M) : z_bb sp rz hd d j ph Q ((.ldc i, pc, 1, b, z) :: is) nx P L S M := ⟨hb, h⟩
theorem z_k_ldc_w {i : Nat} (h : z_bb sp rz hd d j ph Q is nx P L (z_i z :: S) M) : z_bb sp rz hd d j ph Q ((.ldc_w i, pc, a, b, z) :: is) nx P L S M := h
theorem z_k_ldc2 {i : Nat} (h : z_bb sp rz hd d j ph Q is nx P L (z_l z :: S) M) : z_bb sp rz hd d j ph Q ((.ldc2_w i, pc, a, b, z) :: is) nx P L S M := h
theorem z_k_iload (hL : L[n]? = some (some (z_i x))) (h : z_bb sp rz hd d j ph Q is nx P L (z_i x :: S) M) : z_bb sp rz hd d j ph Q ((.iload n, pc, a, b, z) :: is) nx P L S M := ⟨x, hL, h⟩
theorem z_k_iload_n {n : Fin 4} (hL : L[(n : Nat)]? = some (some (z_i x))) (h : z_bb sp rz hd d j ph Q is nx P L (z_i x :: S) M) : z_bb sp rz hd d j ph Q ((.iload_n n, pc, a, b, z) :: is) nx P L S M := ⟨x, hL, h⟩
theorem z_k_lload (hL : L[n]? = some (some (z_l x))) (h : z_bb sp rz hd d j ph Q is nx P L (z_l x :: S) M) : z_bb sp rz hd d j ph Q ((.lload n, pc, a, b, z) :: is) nx P L S M := ⟨x, hL, h⟩
theorem z_k_lload_n {n : Fin 4} (hL : L[(n : Nat)]? = some (some (z_l x))) (h : z_bb sp rz hd d j ph Q is nx P L (z_l x :: S) M) : z_bb sp rz hd d j ph Q ((.lload_n n, pc, a, b, z) :: is) nx P L S M := ⟨x, hL, h⟩
theorem z_k_aload (hL : L[n]? = some (some (z_r (some o)))) (h : z_bb sp rz hd d j ph Q is nx P L (z_r (some o) :: S) M) : z_bb sp rz hd d j ph Q ((.aload n, pc, a, b, z) :: is) nx P L S M := ⟨o, hL, h⟩
theorem z_k_aload_n {n : Fin 4} (hL : L[(n : Nat)]? = some (some (z_r (some o)))) (h : z_bb sp rz hd d j ph Q is nx P L (z_r (some o) :: S) M) : z_bb sp rz hd d j ph Q ((.aload_n n, pc, a, b, z) :: is) nx P L S M := ⟨o, hL, h⟩
theorem z_k_istore (hn : n < L.length) (hL : z_st1 L n (z_i x) = L') (h : z_bb sp rz hd d j ph Q is nx P L' S M) : z_bb sp rz hd d j ph Q ((.istore n, pc, a, b, z) :: is) nx P L (z_i x :: S) M := ⟨x, S, rfl, hn, by subst hL; exact h⟩
theorem z_k_istore_n {n : Fin 4} (hn : (n : Nat) < L.length) (hL : z_st1 L n (z_i x) = L') (h : z_bb sp rz hd d j ph Q is nx P L' S M) : z_bb sp rz hd d j ph Q ((.istore_n n, pc, a, b, z) :: is) nx P L (z_i x :: S) M := ⟨x, S, rfl, hn, by subst hL; exact h⟩
theorem z_k_lstore (hn : n + 1 < L.length) (hL : z_st2 L n (z_l x) = L') (h : z_bb sp rz hd d j ph Q is nx P L' S M) : z_bb sp rz hd d j ph Q ((.lstore n, pc, a, b, z) :: is) nx P L (z_l x :: S) M := ⟨x, S, rfl, hn, by subst hL; exact h⟩
theorem z_k_lstore_n {n : Fin 4} (hn : (n : Nat) + 1 < L.length) (hL : z_st2 L n (z_l x) = L') (h : z_bb sp rz hd d j ph Q is nx P L' S M) : z_bb sp rz hd d j ph Q ((.lstore_n n, pc, a, b, z) :: is) nx P L (z_l x :: S) M := ⟨x, S, rfl, hn, by subst hL; exact h⟩
theorem z_k_astore (hn : n < L.length) (hL : z_st1 L n (z_r (some o)) = L') (h : z_bb sp rz hd d j ph Q is nx P L' S M) : z_bb sp rz hd d j ph Q ((.astore n, pc, a, b, z) :: is) nx P L (z_r (some o) :: S) M := ⟨o, S, rfl, hn, by subst hL; exact h⟩
theorem z_k_astore_n {n : Fin 4} (hn : (n : Nat) < L.length) (hL : z_st1 L n (z_r (some o)) = L') (h : z_bb sp rz hd d j ph Q is nx P L' S M) : z_bb sp rz hd d j ph Q ((.astore_n n, pc, a, b, z) :: is) nx P L (z_r (some o) :: S) M := ⟨o, S, rfl, hn, by subst hL; exact h⟩
theorem z_k_iinc {dd : Int} (hx : L[n]? = some (some (z_i x))) (hL : z_st1 L n (z_i (x + dd)) = L') (h : z_bb sp rz hd d j ph Q is nx P L' S M) : z_bb sp rz hd d j ph Q ((.iinc n dd, pc, a, b, z) :: is) nx P L S M := ⟨x, hx, by subst hL; exact h⟩
theorem z_k_iadd (h : z_bb sp rz hd d j ph Q is nx P L (z_i (x + y) :: S) M) : z_bb sp rz hd d j ph Q ((.iadd, pc, a, b, z) :: is) nx P L (z_i y :: z_i x :: S) M := ⟨x, y, S, rfl, h⟩
theorem z_k_isub (h : z_bb sp rz hd d j ph Q is nx P L (z_i (x - y) :: S) M) : z_bb sp rz hd d j ph Q ((.isub, pc, a, b, z) :: is) nx P L (z_i y :: z_i x :: S) M := ⟨x, y, S, rfl, h⟩
theorem z_k_imul (h : z_bb sp rz hd d j ph Q is nx P L (z_i (x * y) :: S) M) : z_bb sp rz hd d j ph Q ((.imul, pc, a, b, z) :: is) nx P L (z_i y :: z_i x :: S) M := ⟨x, y, S, rfl, h⟩
theorem z_k_ineg (h : z_bb sp rz hd d j ph Q is nx P L (z_i (-x) :: S) M) : z_bb sp rz hd d j ph Q ((.ineg, pc, a, b, z) :: is) nx P L (z_i x :: S) M := ⟨x, S, rfl, h⟩
def z_idiv (x y : Int) : Int := (Int32.ofInt x / Int32.ofInt y).toInt
def z_irem (x y : Int) : Int := (Int32.ofInt x - Int32.ofInt x / Int32.ofInt y * Int32.ofInt y).toInt
def z_iand (x y : Int) : Int := (Int32.ofInt x &&& Int32.ofInt y).toInt
def z_ior (x y : Int) : Int := (Int32.ofInt x ||| Int32.ofInt y).toInt
def z_ixor (x y : Int) : Int := (Int32.ofInt x ^^^ Int32.ofInt y).toInt
def z_ishl (x y : Int) : Int := (Int32.ofInt x <<< (Int32.ofInt y &&& 31)).toInt
def z_ishr (x y : Int) : Int := (Int32.ofInt x >>> (Int32.ofInt y &&& 31)).toInt
def z_iushr (x y : Int) : Int := ((Int32.ofInt x).toUInt32 >>> ((Int32.ofInt y).toUInt32 &&& Int32.toUInt32 31)).toInt32.toInt
def z_ldiv (x y : Int) : Int := (Int64.ofInt x / Int64.ofInt y).toInt
def z_lrem (x y : Int) : Int := (Int64.ofInt x - Int64.ofInt x / Int64.ofInt y * Int64.ofInt y).toInt
def z_land (x y : Int) : Int := (Int64.ofInt x &&& Int64.ofInt y).toInt
def z_lor (x y : Int) : Int := (Int64.ofInt x ||| Int64.ofInt y).toInt
def z_lshl (x y : Int) : Int := (Int64.ofInt x <<< ((Int32.ofInt y).toInt64 &&& 63)).toInt
def z_lshr (x y : Int) : Int := (Int64.ofInt x >>> ((Int32.ofInt y).toInt64 &&& 63)).toInt
def z_lcmp (x y : Int) : Int := (lg_cmp (Int64.ofInt x) (Int64.ofInt y)).toInt
theorem z_k_idiv (hy : z_w y ≠ 0) (h : z_bb sp rz hd d j ph Q is nx P L (z_i (z_idiv x y) :: S) M) : z_bb sp rz hd d j ph Q ((.idiv, pc, a, b, z) :: is) nx P L (z_i y :: z_i x :: S) M := ⟨x, y, S, rfl, hy, h⟩
theorem z_k_irem (hy : z_w y ≠ 0) (h : z_bb sp rz hd d j ph Q is nx P L (z_i (z_irem x y) :: S) M) : z_bb sp rz hd d j ph Q ((.irem, pc, a, b, z) :: is) nx P L (z_i y :: z_i x :: S) M := ⟨x, y, S, rfl, hy, h⟩
theorem z_k_iand (h : z_bb sp rz hd d j ph Q is nx P L (z_i (z_iand x y) :: S) M) : z_bb sp rz hd d j ph Q ((.iand, pc, a, b, z) :: is) nx P L (z_i y :: z_i x :: S) M := ⟨x, y, S, rfl, h⟩
theorem z_k_ior (h : z_bb sp rz hd d j ph Q is nx P L (z_i (z_ior x y) :: S) M) : z_bb sp rz hd d j ph Q ((.ior, pc, a, b, z) :: is) nx P L (z_i y :: z_i x :: S) M := ⟨x, y, S, rfl, h⟩
theorem z_k_ixor (h : z_bb sp rz hd d j ph Q is nx P L (z_i (z_ixor x y) :: S) M) : z_bb sp rz hd d j ph Q ((.ixor, pc, a, b, z) :: is) nx P L (z_i y :: z_i x :: S) M := ⟨x, y, S, rfl, h⟩
theorem z_k_ishl (h : z_bb sp rz hd d j ph Q is nx P L (z_i (z_ishl x y) :: S) M) : z_bb sp rz hd d j ph Q ((.ishl, pc, a, b, z) :: is) nx P L (z_i y :: z_i x :: S) M := ⟨x, y, S, rfl, h⟩
theorem z_k_ishr (h : z_bb sp rz hd d j ph Q is nx P L (z_i (z_ishr x y) :: S) M) : z_bb sp rz hd d j ph Q ((.ishr, pc, a, b, z) :: is) nx P L (z_i y :: z_i x :: S) M := ⟨x, y, S, rfl, h⟩
theorem z_k_iushr (h : z_bb sp rz hd d j ph Q is nx P L (z_i (z_iushr x y) :: S) M) : z_bb sp rz hd d j ph Q ((.iushr, pc, a, b, z) :: is) nx P L (z_i y :: z_i x :: S) M := ⟨x, y, S, rfl, h⟩
theorem z_k_ladd (h : z_bb sp rz hd d j ph Q is nx P L (z_l (x + y) :: S) M) : z_bb sp rz hd d j ph Q ((.ladd, pc, a, b, z) :: is) nx P L (z_l y :: z_l x :: S) M := ⟨x, y, S, rfl, h⟩
theorem z_k_lsub (h : z_bb sp rz hd d j ph Q is nx P L (z_l (x - y) :: S) M) : z_bb sp rz hd d j ph Q ((.lsub, pc, a, b, z) :: is) nx P L (z_l y :: z_l x :: S) M := ⟨x, y, S, rfl, h⟩
theorem z_k_lmul (h : z_bb sp rz hd d j ph Q is nx P L (z_l (x * y) :: S) M) : z_bb sp rz hd d j ph Q ((.lmul, pc, a, b, z) :: is) nx P L (z_l y :: z_l x :: S) M := ⟨x, y, S, rfl, h⟩
theorem z_k_lneg (h : z_bb sp rz hd d j ph Q is nx P L (z_l (-x) :: S) M) : z_bb sp rz hd d j ph Q ((.lneg, pc, a, b, z) :: is) nx P L (z_l x :: S) M := ⟨x, S, rfl, h⟩
theorem z_k_ldiv (hy : z_wl y ≠ 0) (h : z_bb sp rz hd d j ph Q is nx P L (z_l (z_ldiv x y) :: S) M) : z_bb sp rz hd d j ph Q ((.ldiv, pc, a, b, z) :: is) nx P L (z_l y :: z_l x :: S) M := ⟨x, y, S, rfl, hy, h⟩
theorem z_k_lrem (hy : z_wl y ≠ 0) (h : z_bb sp rz hd d j ph Q is nx P L (z_l (z_lrem x y) :: S) M) : z_bb sp rz hd d j ph Q ((.lrem, pc, a, b, z) :: is) nx P L (z_l y :: z_l x :: S) M := ⟨x, y, S, rfl, hy, h⟩
theorem z_k_land (h : z_bb sp rz hd d j ph Q is nx P L (z_l (z_land x y) :: S) M) : z_bb sp rz hd d j ph Q ((.land, pc, a, b, z) :: is) nx P L (z_l y :: z_l x :: S) M := ⟨x, y, S, rfl, h⟩
theorem z_k_lor (h : z_bb sp rz hd d j ph Q is nx P L (z_l (z_lor x y) :: S) M) : z_bb sp rz hd d j ph Q ((.lor, pc, a, b, z) :: is) nx P L (z_l y :: z_l x :: S) M := ⟨x, y, S, rfl, h⟩
theorem z_k_lshl (h : z_bb sp rz hd d j ph Q is nx P L (z_l (z_lshl x y) :: S) M) : z_bb sp rz hd d j ph Q ((.lshl, pc, a, b, z) :: is) nx P L (z_i y :: z_l x :: S) M := ⟨x, y, S, rfl, h⟩
theorem z_k_lshr (h : z_bb sp rz hd d j ph Q is nx P L (z_l (z_lshr x y) :: S) M) : z_bb sp rz hd d j ph Q ((.lshr, pc, a, b, z) :: is) nx P L (z_i y :: z_l x :: S) M := ⟨x, y, S, rfl, h⟩
theorem z_k_lcmp (h : z_bb sp rz hd d j ph Q is nx P L (z_i (z_lcmp x y) :: S) M) : z_bb sp rz hd d j ph Q ((.lcmp, pc, a, b, z) :: is) nx P L (z_l y :: z_l x :: S) M := ⟨x, y, S, rfl, h⟩
theorem z_k_i2l (h : z_bb sp rz hd d j ph Q is nx P L (z_l (z_w x) :: S) M) : z_bb sp rz hd d j ph Q ((.i2l, pc, a, b, z) :: is) nx P L (z_i x :: S) M := ⟨x, S, rfl, h⟩
theorem z_k_l2i (h : z_bb sp rz hd d j ph Q is nx P L (z_i x :: S) M) : z_bb sp rz hd d j ph Q ((.l2i, pc, a, b, z) :: is) nx P L (z_l x :: S) M := ⟨x, S, rfl, h⟩
theorem z_k_dup {v : z_Av} (hv : z_c1 v = true) (h : z_bb sp rz hd d j ph Q is nx P L (v :: v :: S) M) : z_bb sp rz hd d j ph Q ((.dup, pc, a, b, z) :: is) nx P L (v :: S) M := ⟨v, S, rfl, hv, h⟩
theorem z_k_dup2 {v w : z_Av} (hv : z_c1 v = true) (hw : z_c1 w = true) (h : z_bb sp rz hd d j ph Q is nx P L (v :: w :: v :: w :: S) M) : z_bb sp rz hd d j ph Q ((.dup2, pc, a, b, z) :: is) nx P L (v :: w :: S) M := ⟨v, w, S, rfl, hv, hw, h⟩
theorem z_k_pop {v : z_Av} (hv : z_c1 v = true) (h : z_bb sp rz hd d j ph Q is nx P L S M) : z_bb sp rz hd d j ph Q ((.pop, pc, a, b, z) :: is) nx P L (v :: S) M := ⟨v, S, rfl, hv, h⟩
theorem z_k_goto (ht : z_tg (.goto off, pc, a, b, z) off = t) (h : z_go sp d j ph Q t P L S M) : z_bb sp rz hd d j ph Q ((.goto off, pc, a, b, z) :: is) nx P L S M := by subst ht; exact h
theorem z_k_icmp {c : Jvm.ClassFile.Cond} (ht : z_tg (.if_icmp c off, pc, a, b, z) off = t) (h1 : z_cmp c x y → z_go sp d j ph Q t P L S M) (h2 : ¬ z_cmp c x y → z_bb sp rz hd d j ph Q is nx P L S M) : z_bb sp rz hd d j ph Q ((.if_icmp c off, pc, a, b, z) :: is) nx P L (z_i y :: z_i x :: S) M := by subst ht; exact ⟨x, y, S, rfl, h1, h2⟩
theorem z_k_if {c : Jvm.ClassFile.Cond} (ht : z_tg (.ifCond c off, pc, a, b, z) off = t) (h1 : z_cz c x → z_go sp d j ph Q t P L S M) (h2 : ¬ z_cz c x → z_bb sp rz hd d j ph Q is nx P L S M) : z_bb sp rz hd d j ph Q ((.ifCond c off, pc, a, b, z) :: is) nx P L (z_i x :: S) M := by subst ht; exact ⟨x, S, rfl, fun q => h1 (z_cz_ok.mp q), fun q => h2 (fun w => q (z_cz_ok.mpr w))⟩
theorem z_k_nonnull (ht : z_tg (.ifnonnull off, pc, a, b, z) off = t) (h : z_go sp d j ph Q t P L S M) : z_bb sp rz hd d j ph Q ((.ifnonnull off, pc, a, b, z) :: is) nx P L (z_r (some o) :: S) M := by subst ht; exact ⟨o, S, rfl, h⟩
theorem z_k_tsw {lo hi : Int} {dd : Int} {offs : Array Int} (ht : z_tg (.tableswitch dd lo hi offs, pc, a, b, z) dd = t) (hs : (offs.size : Int) = hi - lo + 1) (h1 : (z_w x < lo ∨ hi < z_w x) → z_go sp d j ph Q t P L S M) (h2 : ∀ (v : Nat) (off : Int), offs[v]? = some off → z_w x = lo + (v : Int) → z_go sp d j ph Q ((pc : Int) + off).toNat P L S M) : z_bb sp rz hd d j ph Q ((.tableswitch dd lo hi offs, pc, a, b, z) :: is) nx P L (z_i x :: S) M := by
  subst ht
  refine ⟨x, S, rfl, h1, fun q1 q2 => ?_⟩
  have hlt : (z_w x - lo).toNat < offs.size := by omega
  refine ⟨offs[(z_w x - lo).toNat], Array.getElem?_eq_getElem hlt, ?_⟩
  exact h2 (z_w x - lo).toNat _ (Array.getElem?_eq_getElem hlt) (by omega)
theorem z_k_ireturn (hr : rz = true → x = 0 ∨ x = 1) (hQ : Q (.inl (some (z_i x))) M) : z_bb sp rz hd d j ph Q ((.ireturn, pc, a, b, z) :: is) nx (ph, n) L [z_i x] M := ⟨x, rfl, hr, rfl, hQ⟩
theorem z_k_lreturn (hQ : Q (.inl (some (z_l x))) M) : z_bb sp rz hd d j ph Q ((.lreturn, pc, a, b, z) :: is) nx (ph, n) L [z_l x] M := ⟨x, rfl, rfl, hQ⟩
theorem z_k_return (hQ : Q (.inl none) M) : z_bb sp rz hd d j ph Q ((.return_, pc, a, b, z) :: is) nx (ph, n) L [] M := ⟨rfl, rfl, hQ⟩
theorem z_k_getI {i : Nat} (hk : z_kd P M o = (a, 0)) (hf : (z_FT a b == 0) = false) (h : z_bb sp rz hd d j ph Q is nx P L (z_i (z_I M o b) :: S) M) : z_bb sp rz hd d j ph Q ((.getfield i, pc, a, b, z) :: is) nx P L (z_r (some o) :: S) M := by
  refine ⟨o, S, rfl, hk, ?_⟩
  have e : z_fv a b M o = z_i (z_I M o b) := by unfold z_fv; rw [if_neg (by simpa using hf)]
  show z_bb sp rz hd d j ph Q is nx P L (z_fv a b M o :: S) M
  rw [e]; exact h
theorem z_k_getR {i : Nat} (hk : z_kd P M o = (a, 0)) (hf : (z_FT a b == 0) = true) (hR : z_R M o b = some f) (h : z_bb sp rz hd d j ph Q is nx P L (z_r (some f) :: S) M) : z_bb sp rz hd d j ph Q ((.getfield i, pc, a, b, z) :: is) nx P L (z_r (some o) :: S) M := by
  refine ⟨o, S, rfl, hk, ?_⟩
  have e : z_fv a b M o = z_r (some f) := by unfold z_fv; rw [if_pos (by simpa using hf), hR]
  show z_bb sp rz hd d j ph Q is nx P L (z_fv a b M o :: S) M
  rw [e]; exact h
theorem z_k_putI {i : Nat} (hk : z_kd P M o = (a, 0)) (hf : (z_FT a b == 1) = true) (h : z_bb sp rz hd d j ph Q is nx P L S (z_setI M o b x)) : z_bb sp rz hd d j ph Q ((.putfield i, pc, a, b, z) :: is) nx P L (z_i x :: z_r (some o) :: S) M := Or.inl ⟨o, x, S, rfl, hk, Or.inl (by simpa using hf), h⟩
theorem z_k_putZ {i : Nat} (hk : z_kd P M o = (a, 0)) (hf : (z_FT a b == 2) = true) (hx : x = 0 ∨ x = 1) (h : z_bb sp rz hd d j ph Q is nx P L S (z_setI M o b x)) : z_bb sp rz hd d j ph Q ((.putfield i, pc, a, b, z) :: is) nx P L (z_i x :: z_r (some o) :: S) M := Or.inl ⟨o, x, S, rfl, hk, Or.inr ⟨by simpa using hf, hx⟩, h⟩
theorem z_k_putR {i : Nat} (hk : z_kd P M o = (a, 0)) (hf : (z_FT a b == 0) = true) (hb : f < 300000) (h : z_bb sp rz hd d j ph Q is nx P L S (z_setR M o b (some f))) : z_bb sp rz hd d j ph Q ((.putfield i, pc, a, b, z) :: is) nx P L (z_r (some f) :: z_r (some o) :: S) M := Or.inr ⟨o, f, S, rfl, hk, by simpa using hf, hb, h⟩
theorem z_k_iaload (hk : z_kd P M o = (100, n)) (h0 : 0 ≤ x) (h1 : x < (n : Int)) (h : z_bb sp rz hd d j ph Q is nx P L (z_i (z_I M o x.toNat) :: S) M) : z_bb sp rz hd d j ph Q ((.iaload, pc, a, b, z) :: is) nx P L (z_i x :: z_r (some o) :: S) M := Or.inl ⟨o, x, S, n, rfl, hk, h0, h1, h⟩
theorem z_k_ialoadS (h0 : 0 ≤ x) (h1 : x < (sp 600001 : Int)) (h2 : sp 600001 ≤ 1000000) (h : z_bb sp rz hd d j ph Q is nx P L (z_i (z_sv sp x.toNat) :: S) M) : z_bb sp rz hd d j ph Q ((.iaload, pc, a, b, z) :: is) nx P L (z_i x :: z_r (some 600000) :: S) M := Or.inr ⟨x, S, rfl, h0, h1, h2, h⟩
theorem z_k_laload (hk : z_kd P M o = (101, n)) (h0 : 0 ≤ x) (h1 : x < (n : Int)) (h : z_bb sp rz hd d j ph Q is nx P L (z_l (z_J M o x.toNat) :: S) M) : z_bb sp rz hd d j ph Q ((.laload, pc, a, b, z) :: is) nx P L (z_i x :: z_r (some o) :: S) M := ⟨o, x, S, n, rfl, hk, h0, h1, h⟩
theorem z_k_aaload {tt : Nat} (hk : z_kd P M o = (tt, n)) (ht : tt = 102 ∨ tt = 103) (h0 : 0 ≤ x) (h1 : x < (n : Int)) (hR : z_R M o x.toNat = some f) (h : z_bb sp rz hd d j ph Q is nx P L (z_r (some f) :: S) M) : z_bb sp rz hd d j ph Q ((.aaload, pc, a, b, z) :: is) nx P L (z_i x :: z_r (some o) :: S) M := ⟨o, x, S, tt, n, rfl, hk, ht, h0, h1, by rw [hR]; exact h⟩
theorem z_k_iastore (hk : z_kd P M o = (100, n)) (h0 : 0 ≤ x) (h1 : x < (n : Int)) (h : z_bb sp rz hd d j ph Q is nx P L S (z_setI M o x.toNat y)) : z_bb sp rz hd d j ph Q ((.iastore, pc, a, b, z) :: is) nx P L (z_i y :: z_i x :: z_r (some o) :: S) M := ⟨o, x, y, S, n, rfl, hk, h0, h1, h⟩
theorem z_k_lastore (hk : z_kd P M o = (101, n)) (h0 : 0 ≤ x) (h1 : x < (n : Int)) (h : z_bb sp rz hd d j ph Q is nx P L S (z_setJ M o x.toNat y)) : z_bb sp rz hd d j ph Q ((.lastore, pc, a, b, z) :: is) nx P L (z_l y :: z_i x :: z_r (some o) :: S) M := ⟨o, x, y, S, n, rfl, hk, h0, h1, h⟩
theorem z_k_aastore (hk : z_kd P M o = (103, n)) (hb : z_kd P M f = (5, 0)) (h0 : 0 ≤ x) (h1 : x < (n : Int)) (hf : f < 300000) (h : z_bb sp rz hd d j ph Q is nx P L S (z_setR M o x.toNat (some f))) : z_bb sp rz hd d j ph Q ((.aastore, pc, a, b, z) :: is) nx P L (z_r (some f) :: z_i x :: z_r (some o) :: S) M := ⟨o, x, f, S, n, rfl, hk, hb, h0, h1, hf, h⟩
theorem z_k_alen {tt : Nat} (hk : z_kd P M o = (tt, n)) (h0 : 100 ≤ tt) (h1 : tt ≤ 103) (h : z_bb sp rz hd d j ph Q is nx P L (z_i (n : Int) :: S) M) : z_bb sp rz hd d j ph Q ((.arraylength, pc, a, b, z) :: is) nx P L (z_r (some o) :: S) M := Or.inl ⟨o, S, tt, n, rfl, hk, h0, h1, h⟩
theorem z_k_alenS (h : z_bb sp rz hd d j ph Q is nx P L (z_i (sp 600001 : Int) :: S) M) : z_bb sp rz hd d j ph Q ((.arraylength, pc, a, b, z) :: is) nx P L (z_r (some 600000) :: S) M := Or.inr ⟨S, rfl, h⟩
theorem z_k_throw {i : Nat} (ha : (decide (a < 50)) = false) (hph : P.1 = true) (hc : Nat.ble (S.map z_cat).sum 8 = true) (hp : ph = true) (hQ : Q (.inr (a - 60)) (z_thM M)) : z_bb sp rz hd d j ph Q ((.new i, pc, a, b, z) :: is) nx P L S M := by
  show z_one sp rz hd (z_Run sp z_mt d) (z_go sp d j ph Q) (fun ph' o M' => ph' = ph ∧ Q o M') (.new i, pc, a, b, z) P L S M _
  show if a < 50 then _ else _
  rw [if_neg (of_decide_eq_false ha)]
  exact ⟨hph, Nat.le_of_ble_eq_true hc, hp.symm, hQ⟩
theorem z_k_obj {i : Nat} (hc : Nat.ble (S.map z_cat).sum 8 = true) (h : z_bb sp rz hd d j ph Q is nx P L S M) : z_bb sp rz hd d j ph Q ((.invokespecial i, pc, 999, b, z) :: is) nx P L (z_r (some o) :: S) M := by
  show ∃ a r, z_r (some o) :: S = z_r (some a) :: r ∧ (r.map z_cat).sum ≤ 8 ∧ z_bb sp rz hd d j ph Q is nx P L r M
  exact ⟨o, S, rfl, Nat.le_of_ble_eq_true hc, h⟩
/-- a call: how it goes on -/
def z_aft (sp : Nat → Nat) (rz : Bool) (hd : List (Nat × Nat)) (d j : Nat) (ph : Bool) (Q : z_Ot → z_M → Prop) (is : List z_In) (nx : Nat) (L : z_L) (r : List z_Av) (o : z_Ot) (M1 : z_M) : Prop :=
  z_back hd (z_go sp d j ph Q) (fun ph' o M' => ph' = ph ∧ Q o M') (fun P L S M => z_bb sp rz hd d j ph Q is nx P L S M) ph L r M1 o
theorem z_k_static {i : Nat} {As : List z_Av} (hS : S = As.reverse ++ r) (hn : As.length = b) (hc : Nat.ble (r.map z_cat).sum 8 = true) (h : z_Rn sp d ph a As M (z_aft sp rz hd d j ph Q is nx L r)) : z_bb sp rz hd d j ph Q ((.invokestatic i, pc, a, b, z) :: is) nx (ph, n) L S M := by
  obtain ⟨o, M1, h1, h2⟩ := h
  exact ⟨As.reverse, r, o, M1, ph, ph, hS, by rw [List.length_reverse]; exact hn, trivial, Or.inl rfl, by rw [List.reverse_reverse]; exact h1, Nat.le_of_ble_eq_true hc, h2⟩
theorem z_k_virtual {i c : Nat} {As : List z_Av} (hS : S = (z_r (some o) :: As).reverse ++ r) (hn : As.length = b) (ha : Nat.blt a 900 = true) (hz : z.toNat % 16 = c) (hk : z_kd (ph, n) M o = (c, 0)) (hc : Nat.ble (r.map z_cat).sum 8 = true) (h : z_Rn sp d ph a (z_r (some o) :: As) M (z_aft sp rz hd d j ph Q is nx L r)) : z_bb sp rz hd d j ph Q ((.invokevirtual i, pc, a, b, z) :: is) nx (ph, n) L S M := by
  subst hz
  obtain ⟨o1, M1, h1, h2⟩ := h
  exact ⟨(z_r (some o) :: As).reverse, r, o1, M1, ph, ph, hS, by rw [List.length_reverse, List.length_cons, hn], Or.inr ⟨Nat.le_of_ble_eq_true ha, o, As, List.reverse_reverse _, hk⟩, Or.inl rfl, by rw [List.reverse_reverse]; exact h1, Nat.le_of_ble_eq_true hc, h2⟩
theorem z_k_string {i : Nat} {As : List z_Av} (hS : S = (z_r (some (500000 + o)) :: As).reverse ++ r) (ho : o < 5) (hn : As.length = b) (ha : Nat.ble 900 a = true) (hc : Nat.ble (r.map z_cat).sum 8 = true) (h : z_Rn sp d ph a (z_r (some (500000 + o)) :: As) M (z_aft sp rz hd d j ph Q is nx L r)) : z_bb sp rz hd d j ph Q ((.invokevirtual i, pc, a, b, z) :: is) nx (ph, n) L S M := by
  obtain ⟨o1, M1, h1, h2⟩ := h
  exact ⟨(z_r (some (500000 + o)) :: As).reverse, r, o1, M1, ph, ph, hS, by rw [List.length_reverse, List.length_cons, hn], Or.inl ⟨Nat.le_of_ble_eq_true ha, o, As, ho, List.reverse_reverse _⟩, Or.inl rfl, by rw [List.reverse_reverse]; exact h1, Nat.le_of_ble_eq_true hc, h2⟩
theorem z_k_special {i : Nat} {As : List z_Av} (hS : S = (z_r (some o) :: As).reverse ++ r) (hn : As.length = b) (ha : (a == 999) = false) (hc : Nat.ble (r.map z_cat).sum 8 = true) (h : z_Rn sp d ph a (z_r (some o) :: As) M (fun o1 M1 => o1 = .inl none ∧ z_bb sp rz hd d j ph Q is nx (ph, 0) L r M1)) : z_bb sp rz hd d j ph Q ((.invokespecial i, pc, a, b, z) :: is) nx (ph, n) L S M := by
  obtain ⟨o1, M1, h1, h2, h3⟩ := h
  show if a = 999 then _ else _
  rw [if_neg (by simpa using ha)]
  subst h2
  exact ⟨(z_r (some o) :: As).reverse, r, .inl none, M1, ph, ph, hS, by rw [List.length_reverse, List.length_cons, hn], ⟨o, As, List.reverse_reverse _⟩, Or.inl rfl, by rw [List.reverse_reverse]; exact h1, Nat.le_of_ble_eq_true hc, h3⟩
theorem z_aftI {o1 : z_Ot} {M1 : z_M} {f : Int → z_M → Prop} {g : Nat → z_M → Prop} (hf : ∀ v M, f v M → z_bb sp rz hd d j ph Q is nx (ph, 0) L (z_i v :: r) M) (hg : ∀ e M, g e M → z_aft sp rz hd d j ph Q is nx L r (.inr e) M) (h : z_qI f g o1 M1) : z_aft sp rz hd d j ph Q is nx L r o1 M1 := by
  rcases o1 with _ | e
  · rename_i v
    rcases v with _ | v | v | v
    · exact h.elim
    · exact hf v M1 h
    · exact h.elim
    · exact h.elim
  · exact hg e M1 h
theorem z_aftL {o1 : z_Ot} {M1 : z_M} {f : Int → z_M → Prop} {g : Nat → z_M → Prop} (hf : ∀ v M, f v M → z_bb sp rz hd d j ph Q is nx (ph, 0) L (z_l v :: r) M) (hg : ∀ e M, g e M → z_aft sp rz hd d j ph Q is nx L r (.inr e) M) (h : z_qL f g o1 M1) : z_aft sp rz hd d j ph Q is nx L r o1 M1 := by
  rcases o1 with _ | e
  · rename_i v
    rcases v with _ | v | v | v
    · exact h.elim
    · exact h.elim
    · exact hf v M1 h
    · exact h.elim
  · exact hg e M1 h
theorem z_aftV {o1 : z_Ot} {M1 : z_M} {f : z_M → Prop} {g : Nat → z_M → Prop} (hf : ∀ M, f M → z_bb sp rz hd d j ph Q is nx (ph, 0) L r M) (hg : ∀ e M, g e M → z_aft sp rz hd d j ph Q is nx L r (.inr e) M) (h : z_qV f g o1 M1) : z_aft sp rz hd d j ph Q is nx L r o1 M1 := by
  rcases o1 with _ | e
  · rename_i v
    rcases v with _ | v | v | v
    · exact hf M1 h
    · exact h.elim
    · exact h.elim
    · exact h.elim
  · exact hg e M1 h
theorem z_aftX {e : Nat} {M1 : z_M} (h : Q (.inr e) M1) : z_aft sp rz [] d j ph Q is nx L r (.inr e) M1 := ⟨rfl, rfl, h⟩
theorem z_aftH {e : Nat} {M1 : z_M} {p0 : Nat × Nat} {hr : List (Nat × Nat)} (hL : ∀ v ∈ L, v ≠ some (z_r (some 400000))) (h : z_hk (p0 :: hr) e (fun t => z_go sp d j ph Q t (ph, 0) L [z_r (some 400000)] M1)) : z_aft sp rz (p0 :: hr) d j ph Q is nx L r (.inr e) M1 := by
  unfold z_hk at h
  show match (p0 :: hr).lookup e with
    | some h => (∀ v ∈ L, v ≠ some (z_r (some 400000))) ∧ z_go sp d j ph Q h (ph, 0) L [z_r (some 400000)] M1
    | none => (p0 :: hr) = [] ∧ ph = ph ∧ Q (.inr e) M1
  cases hq : (p0 :: hr).lookup e with
  | none => rw [hq] at h; exact h.elim
  | some t => rw [hq] at h; exact ⟨hL, h⟩
end ZRules
