/-! ===== alike: both counts are one ===== -/
section Group
variable {L lw h : Nat} {u v w : List Nat} {b1 b2 c1 c2 : Bool}
theorem u_ih_ff : u_ih L false false h = h := by
  rw [u_ih_id]; split <;> omega
theorem u_ih_side (hh : h < L + L) : decide (u_ih L c1 c2 h < L) = (decide (h < L) != c2) := by
  unfold u_ih r_row
  by_cases c : h < L <;> cases c1 <;> cases c2 <;> simp [c] <;> omega
theorem u_ih_row (hh : h < L + L) : r_row L (u_ih L c1 c2 h) = (if c1 = true then L - 1 - r_row L h else r_row L h) := by
  have hr : r_row L h < L := by unfold r_row; split <;> omega
  have hs := u_ih_side (c1 := c1) (c2 := c2) hh
  unfold u_ih at hs ⊢
  generalize r_row L h = r at *
  generalize (decide (h < L) != c2) = e at *
  cases e <;> cases c1 <;> simp [r_row] <;> omega
theorem u_ih_comp (hh : h < L + L) : u_ih L b1 b2 (u_ih L c1 c2 h) = u_ih L (b1 != c1) (b2 != c2) h := by
  have hr : r_row L h < L := by unfold r_row; split <;> omega
  show (if (decide (u_ih L c1 c2 h < L) != b2) = true then 0 else L) + (if b1 = true then L - 1 - r_row L (u_ih L c1 c2 h) else r_row L (u_ih L c1 c2 h)) = (if (decide (h < L) != (b2 != c2)) = true then 0 else L) + (if (b1 != c1) = true then L - 1 - r_row L h else r_row L h)
  rw [u_ih_side hh, u_ih_row hh]
  have e1 : ((decide (h < L) != c2) != b2) = (decide (h < L) != (b2 != c2)) := by cases decide (h < L) <;> cases b2 <;> cases c2 <;> rfl
  have e2 : (if b1 = true then L - 1 - (if c1 = true then L - 1 - r_row L h else r_row L h) else (if c1 = true then L - 1 - r_row L h else r_row L h)) = (if (b1 != c1) = true then L - 1 - r_row L h else r_row L h) := by
    cases b1 <;> cases c1 <;> simp <;> omega
  rw [e1, e2]
theorem u_map_comp (hb : ∀ x ∈ w, x < L + L) : (w.map (u_ih L c1 c2)).map (u_ih L b1 b2) = w.map (u_ih L (b1 != c1) (b2 != c2)) := by
  rw [List.map_map]
  exact List.map_congr_left (fun x hx => u_ih_comp (hb x hx))
theorem u_ih_inv (hh : h < L + L) : u_ih L b1 b2 (u_ih L b1 b2 h) = h := by
  rw [u_ih_comp hh]
  cases b1 <;> cases b2 <;> exact u_ih_ff
theorem u_map_lt (hb : ∀ x ∈ w, x < L + L) : ∀ x ∈ w.map (u_ih L b1 b2), x < L + L := fun x hx => by
  rw [List.mem_map] at hx
  obtain ⟨y, hy, rfl⟩ := hx
  exact u_ih_lt (hb y hy)
theorem u_map_nodup (hn : w.Nodup) (hb : ∀ x ∈ w, x < L + L) : (w.map (u_ih L b1 b2)).Nodup := by
  refine List.pairwise_map.mpr (List.Pairwise.imp_of_mem ?_ hn)
  intro x y hx hy hne e
  refine hne ?_
  rw [← u_ih_inv (b1 := b1) (b2 := b2) (hb x hx), e, u_ih_inv (hb y hy)]
theorem u_im_im (hn : w.Nodup) (h0 : w ≠ []) (hb : ∀ x ∈ w, x < L + L) : u_im L (u_im L w c1 c2) b1 b2 = u_im L w (b1 != c1) (b2 != c2) := by
  show q_own ((q_own (w.map (u_ih L c1 c2))).map (u_ih L b1 b2)) = q_own (w.map (u_ih L (b1 != c1) (b2 != c2)))
  rw [← u_map_comp hb]
  have m0 : w.map (u_ih L c1 c2) ≠ [] := u_map_ne h0
  exact u_own_eq (u_map_nodup (u_map_nodup hn hb) (u_map_lt hb)) (u_map_ne m0) (u_dh_map m0 (u_dh_own m0))
theorem q_at_m1 (h0 : v ≠ []) : q_at v (-1) = u_wl v := by
  have hl : 0 < v.length := List.length_pos_iff.mpr h0
  have e := q_at_len (v := v) (i := -1)
  rw [← e, show (-1 : Int) + (v.length : Int) = ((v.length - 1 : Nat) : Int) by omega, q_at_nat (by omega)]; rfl
theorem q_at_00 (h0 : v ≠ []) : q_at v 0 = v.getD 0 0 := by
  have hl : 0 < v.length := List.length_pos_iff.mpr h0
  exact q_at_nat (w := v) (i := 0) hl
theorem q_at_11 (h2 : 1 < v.length) : q_at v 1 = v.getD 1 0 := q_at_nat (w := v) (i := 1) h2
theorem u_rd_ne (h2 : 2 ≤ L) (h : u_rd L lw v) : v ≠ [] := fun q => by
  have := h.1
  rw [q, List.length_nil] at this
  omega
theorem u_rd_own (h2 : 2 ≤ L) (h : u_rd L lw v) : q_own v = v := by
  have h0 := u_rd_ne h2 h
  obtain ⟨v1, v2, v3, v4, v5, v6⟩ := h
  exact u_dh_eq v2 h0 (u_dh_own h0) (fun x hx => by rw [q_own_0 h0]; exact q_sx_min (q_own_mem.mp hx)) (fun x hx => by rw [q_at_00 h0, v4]; exact Nat.zero_le x) (q_own_1 h0) (by rw [q_at_11 (by omega), q_at_m1 h0]; exact Nat.le_of_lt v5)
theorem u_la_dh (hn : v ≠ []) (h : u_dh u v) (hv : u_la L lw v = true) : u_la L lw u = true := by
  have hu := u_dh_ne h hn
  obtain ⟨l, f, D, hD, h⟩ := h
  rw [u_la_iff hn] at hv
  rw [u_la_iff hu]
  intro i
  rcases hD with rfl | rfl
  · have e : ∀ j, q_ac L u j = q_ac L v (f + j) := fun j => by
      unfold q_ac
      rw [h, h, Int.one_mul, Int.one_mul, Int.add_assoc]
    have := hv (f + i)
    rw [e, e, show f + (i - 1) = f + i - 1 by omega]
    exact this
  · have e : ∀ j, q_ac L u j = q_ac L v (f - j - 1) := fun j => by
      unfold q_ac
      rw [h, h, r_x_comm, show f + -1 * (j + 1) = f - j - 1 by omega, show f - j - 1 + 1 = f + -1 * j by omega]
    have := hv (f - i)
    rw [e, e, r_may_comm, show f - (i - 1) - 1 = f - i by omega]
    exact this
theorem u_la_map (h0 : v ≠ []) (hb : ∀ x ∈ v, x < L + L) (hv : u_la L lw v = true) : u_la L lw (v.map (u_ih L b1 b2)) = true := by
  rw [u_la_iff h0] at hv
  rw [u_la_iff (u_map_ne h0)]
  have e : ∀ j, q_ac L (v.map (u_ih L b1 b2)) j = q_ac L v j := fun j => by
    unfold q_ac r_x
    rw [q_at_map h0, q_at_map h0, u_ih_side (hb _ (q_at_mem h0)), u_ih_side (hb _ (q_at_mem h0))]
    cases decide (q_at v j < L) <;> cases decide (q_at v (j + 1) < L) <;> cases b2 <;> rfl
  intro i
  rw [e, e]
  exact hv i
theorem u_rd_im (h2 : 2 ≤ L) (h : u_rd L lw v) : u_rd L lw (u_im L v b1 b2) := by
  have h0 := u_rd_ne h2 h
  obtain ⟨v1, v2, v3, v4, v5, v6⟩ := h
  have m0 : v.map (u_ih L b1 b2) ≠ [] := u_map_ne h0
  have md := u_map_nodup (b1 := b1) (b2 := b2) v2 v3
  have mb := u_map_lt (b1 := b1) (b2 := b2) v3
  have ml : (v.map (u_ih L b1 b2)).length = L + L := by rw [List.length_map]; exact v1
  have ma := u_la_map (b1 := b1) (b2 := b2) h0 v3 v6
  show u_rd L lw (q_own (v.map (u_ih L b1 b2)))
  generalize v.map (u_ih L b1 b2) = w at *
  have m00 : 0 ∈ w := by
    by_cases c : 0 ∈ w
    · exact c
    · exfalso
      have := n_subl (l' := List.range' 1 (L + L - 1)) md (fun x hx => by
        rw [List.mem_range'_1]
        have := mb x hx
        have : x ≠ 0 := fun q => c (q ▸ hx)
        omega)
      rw [List.length_range'] at this
      omega
  have o0 := q_own_ne m0
  have ol : (q_own w).length = L + L := by rw [q_own_len]; exact ml
  have od := u_dh_nodup (u_dh_own m0) md
  refine ⟨ol, od, fun x hx => mb x (q_own_mem.mp hx), ?_, ?_, u_la_dh m0 (u_dh_own m0) ma⟩
  · rw [← q_at_00 o0, q_own_0 m0]
    exact Nat.le_zero.mp (q_sx_min m00)
  · have a := q_own_1 m0
    rw [q_at_11 (by omega), q_at_m1 o0] at a
    exact Nat.lt_of_le_of_ne a (u_wl_ne od (by omega))
theorem u_im_ff (h2 : 2 ≤ L) (h : u_rd L lw v) : u_im L v false false = v := by
  unfold u_im
  rw [u_ih_map]
  exact u_rd_own h2 h
theorem u_xcp_lx {a b : List Nat} : ∀ (k i : Nat), u_xcp a b k i ≤ 0 ↔ u_lx a b k i = false
  | 0, i => ⟨fun _ => rfl, fun _ => Int.le_refl 0⟩
  | k + 1, i => by
    rw [u_xcp, u_lx]
    by_cases c : a.getD i 0 = b.getD i 0
    · rw [if_pos c, if_pos c]
      exact u_xcp_lx k (i + 1)
    · rw [if_neg c, if_neg c]
      by_cases c2 : a.getD i 0 ≤ b.getD i 0
      · rw [if_pos c2, decide_eq_true (by omega)]
        exact ⟨fun q => absurd q (by decide), fun q => by cases q⟩
      · rw [if_neg c2, decide_eq_false (by omega)]
        exact ⟨fun _ => rfl, fun _ => by decide⟩
theorem u_lx_eq {a b : List Nat} (hl : a.length = b.length) (h1 : u_lx a b b.length 0 = false) (h2 : u_lx b a b.length 0 = false) : a = b := by
  have key : ∀ (k i : Nat), u_lx a b k i = false → u_lx b a k i = false → ∀ j, i ≤ j → j < i + k → a.getD j 0 = b.getD j 0 := by
    intro k
    induction k with
    | zero => intro i _ _ j g1 g2; omega
    | succ k ih =>
      intro i g1 g2 j g3 g4
      rw [u_lx] at g1 g2
      by_cases c : a.getD i 0 = b.getD i 0
      · rw [if_pos c] at g1
        rw [if_pos c.symm] at g2
        by_cases q : j = i
        · rw [q]; exact c
        · exact ih (i + 1) g1 g2 j (by omega) (by omega)
      · rw [if_neg c] at g1
        rw [if_neg (fun q => c q.symm)] at g2
        have := of_decide_eq_false g1
        have := of_decide_eq_false g2
        omega
  exact (u_xcp_eq hl).mp ((u_xcp_0 _ _).mpr (key _ _ h1 h2))
end Group
/-! sums -/
def n_sm {α : Type} (f : α → Nat) : List α → Nat
  | [] => 0
  | x :: l => f x + n_sm f l
theorem n_sm_zero {α : Type} {f : α → Nat} : ∀ l : List α, (∀ x ∈ l, f x = 0) → n_sm f l = 0
  | [], _ => rfl
  | x :: l, h => by
    show f x + n_sm f l = 0
    rw [h x List.mem_cons_self, n_sm_zero l (fun y hy => h y (List.mem_cons_of_mem _ hy))]
theorem n_sm_add {α : Type} {f g : α → Nat} : ∀ l : List α, n_sm (fun x => f x + g x) l = n_sm f l + n_sm g l
  | [] => rfl
  | x :: l => by
    show f x + g x + n_sm (fun x => f x + g x) l = f x + n_sm f l + (g x + n_sm g l)
    rw [n_sm_add l]; omega
theorem n_sm_congr {α : Type} {f g : α → Nat} : ∀ l : List α, (∀ x ∈ l, f x = g x) → n_sm f l = n_sm g l
  | [], _ => rfl
  | x :: l, h => by
    show f x + n_sm f l = g x + n_sm g l
    rw [h x List.mem_cons_self, n_sm_congr l (fun y hy => h y (List.mem_cons_of_mem _ hy))]
theorem n_sm_const {α : Type} {c : Nat} : ∀ l : List α, n_sm (fun _ => c) l = c * l.length
  | [] => rfl
  | x :: l => by
    show c + n_sm (fun _ => c) l = c * (l.length + 1)
    rw [n_sm_const l, Nat.mul_add, Nat.mul_one]; omega
theorem n_sm_swap {α β : Type} {F : α → β → Nat} : ∀ (l : List α) (r : List β), n_sm (fun x => n_sm (F x) r) l = n_sm (fun y => n_sm (fun x => F x y) l) r
  | [], r => (n_sm_zero r (fun _ _ => rfl)).symm
  | x :: l, r => by
    show n_sm (F x) r + n_sm (fun x => n_sm (F x) r) l = n_sm (fun y => F x y + n_sm (fun x => F x y) l) r
    rw [n_sm_swap l r, n_sm_add]
theorem n_sm_one {α : Type} {f : α → Nat} {x0 : α} : ∀ l : List α, l.Nodup → x0 ∈ l → (∀ x ∈ l, x ≠ x0 → f x = 0) → n_sm f l = f x0
  | [], _, h, _ => by cases h
  | x :: l, hn, h, hz => by
    obtain ⟨n1, n2⟩ := List.nodup_cons.mp hn
    show f x + n_sm f l = f x0
    rcases List.mem_cons.mp h with q | q
    · rw [← q, n_sm_zero l (fun y hy => hz y (List.mem_cons_of_mem _ hy) (fun e => n1 (by rw [← q, ← e]; exact hy)))]; rfl
    · rw [n_sm_one l n2 q (fun y hy hne => hz y (List.mem_cons_of_mem _ hy) hne), hz x List.mem_cons_self (fun e => n1 (e ▸ q)), Nat.zero_add]
def u_4 (f : Bool → Bool → Nat) : Nat := f false false + f true false + f false true + f true true
/-- how many of the four make a round another one -/
def u_fx (L : Nat) (r v : List Nat) : Nat := u_4 (fun a b => if u_im L r a b = v then 1 else 0)
theorem u_fx_eq {L : Nat} {r v : List Nat} : u_fx L r v = (if u_im L r false false = v then 1 else 0) + (if u_im L r true false = v then 1 else 0) + (if u_im L r false true = v then 1 else 0) + (if u_im L r true true = v then 1 else 0) := rfl
section Burn
variable {L lw : Nat} {u v w : List Nat} {S R : List (List Nat)}
theorem u_fx_sh {a0 b0 : Bool} (h2 : 2 ≤ L) (h : u_rd L lw w) : u_fx L (u_im L w a0 b0) v = u_fx L w v := by
  have h0 := u_rd_ne h2 h
  have e := fun a b => u_im_im (L := L) (w := w) (c1 := a0) (c2 := b0) (b1 := a) (b2 := b) h.2.1 h0 h.2.2.1
  rw [u_fx_eq, u_fx_eq, e, e, e, e]
  cases a0 <;> cases b0 <;> simp only [bne_self_eq_false, Bool.bne_true, Bool.bne_false, Bool.not_false, Bool.not_true] <;> omega
theorem u_cq_lx (h2 : 2 ≤ L) (h : u_rd L lw v) (hc : u_cq L v) (a b : Bool) : u_lx (u_im L v a b) v v.length 0 = false := by
  cases a <;> cases b
  · rw [u_im_ff h2 h]; exact u_lx_irr _ _
  · exact (u_xcp_lx _ _).mp hc.2.1
  · exact (u_xcp_lx _ _).mp hc.1
  · exact (u_xcp_lx _ _).mp hc.2.2
/-- some image is ahead of none -/
theorem u_cq_ex (h2 : 2 ≤ L) (h : u_rd L lw w) : ∃ a b, u_cq L (u_im L w a b) := by
  obtain ⟨b, -, h3, h4, -⟩ := (u_bs_min (n := w.length) (f := id) [u_im L w false false, u_im L w true false, u_im L w false true, u_im L w true true] none).2 (Or.inr (List.cons_ne_nil _ _))
  have h0 := u_rd_ne h2 h
  have key : ∀ c d, b = u_im L w c d → u_cq L (u_im L w c d) := fun c d e => by
    have im := fun a b => u_im_im (L := L) (w := w) (c1 := c) (c2 := d) (b1 := a) (b2 := b) h.2.1 h0 h.2.2.1
    have all : ∀ a b', u_lx (u_im L w a b') b w.length 0 = false := fun a b' => by
      cases a <;> cases b'
      · exact h4 _ List.mem_cons_self
      · exact h4 _ (List.mem_cons_of_mem _ (List.mem_cons_of_mem _ List.mem_cons_self))
      · exact h4 _ (List.mem_cons_of_mem _ List.mem_cons_self)
      · exact h4 _ (List.mem_cons_of_mem _ (List.mem_cons_of_mem _ (List.mem_cons_of_mem _ List.mem_cons_self)))
    have ln : (u_im L w c d).length = w.length := u_im_len
    have one : ∀ a b', u_ci L (u_im L w c d) a b' ≤ 0 := fun a b' => by
      unfold u_ci
      rw [u_xcp_lx, im, ln, ← e]
      exact all _ _
    exact ⟨one _ _, one _ _, one _ _⟩
  rcases h3 with ⟨x, hx, e⟩ | h3
  · have e' : b = x := e
    simp only [List.mem_cons, List.not_mem_nil, or_false] at hx
    rcases hx with q | q | q | q
    · exact ⟨_, _, key _ _ (e'.trans q)⟩
    · exact ⟨_, _, key _ _ (e'.trans q)⟩
    · exact ⟨_, _, key _ _ (e'.trans q)⟩
    · exact ⟨_, _, key _ _ (e'.trans q)⟩
  · cases h3
theorem u_burn (h2 : 2 ≤ L) (hS : S.Nodup) (hR : R.Nodup) (mS : ∀ v, v ∈ S ↔ u_rd L lw v) (mR : ∀ v, v ∈ R ↔ (u_rd L lw v ∧ u_cq L v)) : n_sm (fun w => u_fx L w w) S = 4 * R.length := by
  have e1 : ∀ w ∈ S, u_fx L w w = n_sm (fun r => u_fx L r w) R := fun w hw => by
    have h := (mS w).mp hw
    have h0 := u_rd_ne h2 h
    obtain ⟨a0, b0, hc⟩ := u_cq_ex h2 h
    have hr : u_rd L lw (u_im L w a0 b0) := u_rd_im h2 h
    rw [n_sm_one (x0 := u_im L w a0 b0) R hR ((mR _).mpr ⟨hr, hc⟩) (fun r hrR hne => ?_)]
    · exact (u_fx_sh h2 h).symm
    · obtain ⟨hr1, hr2⟩ := (mR r).mp hrR
      have r0 := u_rd_ne h2 hr1
      have no : ∀ a b, u_im L r a b ≠ w := fun a b q => by
        refine hne ?_
        have l1 : r.length = (u_im L w a0 b0).length := by rw [hr1.1, hr.1]
        have x1 := u_cq_lx h2 hr1 hr2 (a0 != a) (b0 != b)
        rw [← u_im_im hr1.2.1 r0 hr1.2.2.1, q] at x1
        have q2 : u_im L w a b = r := by
          rw [← q, u_im_im hr1.2.1 r0 hr1.2.2.1]
          have : u_im L r (a != a) (b != b) = u_im L r false false := by cases a <;> cases b <;> rfl
          rw [this]
          exact u_im_ff h2 hr1
        have x2 := u_cq_lx h2 hr hc (a != a0) (b != b0)
        rw [u_im_im h.2.1 h0 h.2.2.1] at x2
        have e3 : u_im L w ((a != a0) != a0) ((b != b0) != b0) = u_im L w a b := by cases a <;> cases b <;> cases a0 <;> cases b0 <;> rfl
        rw [e3, q2] at x2
        rw [l1] at x1
        exact u_lx_eq l1 x2 x1
      rw [u_fx_eq, if_neg (no _ _), if_neg (no _ _), if_neg (no _ _), if_neg (no _ _)]
  rw [n_sm_congr S e1, n_sm_swap]
  rw [n_sm_congr (g := fun _ => 4) R (fun r hr => ?_), n_sm_const]
  have hr1 := ((mR r).mp hr).1
  have one : ∀ a b, n_sm (fun v => if u_im L r a b = v then 1 else 0) S = 1 := fun a b => by
    rw [n_sm_one (x0 := u_im L r a b) S hS ((mS _).mpr (u_rd_im h2 hr1)) (fun x _ hne => if_neg (fun q => hne q.symm)), if_pos rfl]
  show n_sm (fun v => (if u_im L r false false = v then 1 else 0) + (if u_im L r true false = v then 1 else 0) + (if u_im L r false true = v then 1 else 0) + (if u_im L r true true = v then 1 else 0)) S = 4
  rw [n_sm_add, n_sm_add, n_sm_add, one, one, one, one]
theorem u_xsm_sm {f : List Nat → Int} {g : List Nat → Nat} : ∀ l : List (List Nat), (∀ x ∈ l, f x = (g x : Int)) → u_xsm f l = (n_sm g l : Int)
  | [], _ => rfl
  | x :: l, h => by
    show f x + u_xsm f l = ((g x + n_sm g l : Nat) : Int)
    rw [h x List.mem_cons_self, u_xsm_sm l (fun y hy => h y (List.mem_cons_of_mem _ hy))]; omega
theorem u_si_fx (h2 : 2 ≤ L) (h : u_rd L lw v) : u_si L v = (u_fx L v v : Int) := by
  have h0 := u_rd_ne h2 h
  have l1 := h.1
  have e : ∀ a b, n_b (u_oi L v a b) = ((if u_im L v a b = v then 1 else 0 : Nat) : Int) := fun a b => by
    have := u_ci_oi (L := L) (w := v) (b1 := a) (b2 := b) h.2.1 (by omega)
    rw [u_rd_own h2 h, u_ci_0] at this
    by_cases c : u_im L v a b = v
    · rw [if_pos c, this.mp c]; rfl
    · rw [if_neg c, Bool.eq_false_iff.mpr (fun q => c (this.mpr q))]; rfl
  unfold u_si
  rw [u_fx_eq, e, e, e, if_pos (u_im_ff h2 h)]
  omega
/-- how many rounds, alike ones once: both sides -/
theorem u_alike (h2 : 2 ≤ L) (h4 : L ≤ 4) : u_al L lw = u_ac L lw := by
  have hR : ((u_pl (L + L) (L + L - 1) 1 [0]).filter (u_lf L lw)).Nodup := List.Pairwise.filter _ (u_pl_nodup _ _ _)
  have b := u_burn (L := L) (lw := lw) h2 u_gal_nodup hR (fun v => u_gal_mem h2 h4) (fun v => u_acl_mem h2)
  have e := u_xsm_sm (f := u_si L) (g := fun w => u_fx L w w) (u_gal L lw) (fun x hx => u_si_fx h2 ((u_gal_mem h2 h4).mp hx))
  have bd : ((u_pl (L + L) (L + L - 1) 1 [0]).filter (u_lf L lw)).length ≤ 8 ^ 7 := by
    refine Nat.le_trans (List.length_filter_le _ _) ?_
    have go : ∀ (k used : Nat) (w : List Nat), (u_pl (L + L) k used w).length ≤ 8 ^ k := by
      intro k
      induction k with
      | zero => intro used w; exact Nat.le_refl _
      | succ k ih =>
        intro used w
        rw [u_pl]
        refine Nat.le_trans (u_flat_le (N := 8 ^ k) (fun i => ?_) (L + L - 1) 1) ?_
        · split
          · exact Nat.zero_le _
          · exact ih _ _
        · rw [Nat.pow_succ, Nat.mul_comm]
          exact Nat.mul_le_mul (Nat.le_refl _) (by omega)
    exact Nat.le_trans (go _ _ _) (Nat.pow_le_pow_right (by decide) (by omega))
  unfold u_al u_ac
  rw [e, b]
  generalize ((u_pl (L + L) (L + L - 1) 1 [0]).filter (u_lf L lw)).length = N at *
  have bd' : N ≤ 2097152 := bd
  rw [show ((4 * N : Nat) : Int) = ((4 * N : Nat) : Int) from rfl, n_idiv (by omega) (by omega) (by omega) (by omega)]
  omega
end Burn
