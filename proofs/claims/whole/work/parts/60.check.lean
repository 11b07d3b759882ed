/-! ===== what is checked of each boot's roots, number by number ===== -/
def v_nw (N : Nat) : Nat → Nat → Nat
  | 0, x => x
  | k + 1, x => v_nw N k ((x + N / x) / 2)
def v_N (A B k : Nat) : Nat := q_r A B k * 2 ^ 96
def v_rt (A B k : Nat) : Nat := v_nw (v_N A B k) 7 ((A + k * B) * 2 ^ 48)
def v_rok (A B k : Nat) : Bool := Nat.ble (v_rt A B k * v_rt A B k) (v_N A B k) && Nat.blt (v_N A B k) ((v_rt A B k + 1) * (v_rt A B k + 1))
def v_pl (A B k : Nat) : Nat := q_pl A (q_r A B k) (v_rt A B k) ((v_N A B k - v_rt A B k * v_rt A B k) * 65536 / (2 * v_rt A B k))
/-- a root that is whole -/
def v_sq (A B k : Nat) : Bool := Nat.beq (v_rt A B k * v_rt A B k) (v_N A B k) && (Nat.beq (v_rt A B k % 2 ^ 48) 0 && Nat.beq (q_Fr A B k) 1)
def v_D (n0 n1 n2 n3 n4 n5 : Int) (k : Nat) : Int := match k with
  | 0 => n0
  | 1 => n1
  | 2 => n2
  | 3 => n3
  | 4 => n4
  | _ => n5
/-- a difference of sums: nothing, just if its number is -/
def v_gd (pull : Bool) (A B T l1 l2 l3 l4 l5 i : Nat) : Bool :=
  if Nat.beq (i % 21) 10 && Nat.beq (i / 21 % 17) 8 && Nat.beq (i / (21 * 17) % 13) 6 && Nat.beq (i / (21 * 17 * 13) % 9) 4 && Nat.beq (i / (21 * 17 * 13 * 9) % 5) 2 then true else
  let n1 : Int := (i % 21 : Nat) - 10
  let n2 : Int := (i / 21 % 17 : Nat) - 8
  let n3 : Int := (i / (21 * 17) % 13 : Nat) - 6
  let n4 : Int := (i / (21 * 17 * 13) % 9 : Nat) - 4
  let n5 : Int := (i / (21 * 17 * 13 * 9) % 5 : Nat) - 2
  let X : Int := n1 * l1 + n2 * l2 + n3 * l3 + n4 * l4 + n5 * l5
  let n0 : Int := -((X + (T / 2 : Nat)) / T)
  (decide (-64 ≤ n0 * T + X ∧ n0 * T + X ≤ 64) == q_nt pull A (q_P A B) (q_Fr A B) (v_D n0 n1 n2 n3 n4 n5) 5 1) && (decide (-64 ≤ n0 * T + X ∧ n0 * T + X ≤ 64) || decide (n0 * T + X < -1000 ∨ 1000 < n0 * T + X))
def v_off (T W l1 l2 l3 l4 l5 : Nat) : Nat := (W + 30 * T - (10 * l1 + 8 * l2 + 6 * l3 + 4 * l4 + 2 * l5)) % T
def v_all (f : Nat → Bool) : Nat → Bool
  | 0 => true
  | n + 1 => v_all f n && f n
def v_df (pull : Bool) (w t W A B l1 l2 l3 l4 l5 : Nat) : Bool :=
  v_all (fun m5 => v_all (fun m4 => v_chk w t 21 17 13 1 1 (l1 % 2 ^ t) (l2 % 2 ^ t) (l3 % 2 ^ t) 0 0 ((v_off (2 ^ t) W (l1 % 2 ^ t) (l2 % 2 ^ t) (l3 % 2 ^ t) (l4 % 2 ^ t) (l5 % 2 ^ t) + l4 % 2 ^ t * m4 + l5 % 2 ^ t * m5) % 2 ^ t) (2 * W) (fun i => v_gd pull A B (2 ^ t) l1 l2 l3 l4 l5 (i + 4641 * (m4 + 9 * m5)))) 9) 5
/-- a sum to be cut: all its roots are whole -/
def v_gw (A B i : Nat) : Bool := (Nat.beq (i % 11) 0 || v_sq A B 1) && (Nat.beq (i / 11 % 9) 0 || v_sq A B 2) && (Nat.beq (i / (11 * 9) % 7) 0 || v_sq A B 3) && (Nat.beq (i / (11 * 9 * 7) % 5) 0 || v_sq A B 4) && (Nat.beq (i / (11 * 9 * 7 * 5) % 3) 0 || v_sq A B 5)
def v_ct (w t c off win A B l1 l2 l3 l4 l5 : Nat) : Bool :=
  v_chk w t 11 9 7 5 3 (c * l1 % 2 ^ t) (c * l2 % 2 ^ t) (c * l3 % 2 ^ t) (c * l4 % 2 ^ t) (c * l5 % 2 ^ t) off win (v_gw A B)
/-- pulls of whole roots -/
def v_cw (A B p1 p2 p3 p4 p5 : Nat) (m1 m2 m3 m4 m5 : Nat) : Bool :=
  let u := q_ru A (fun k => v_rt A B k / 2 ^ 48) (v_D 0 m1 m2 m3 m4 m5) 5 1 0 1
  decide (u.2 ≤ 9000000000000) && decide (((m1 * p1 + m2 * p2 + m3 * p3 + m4 * p4 + m5 * p5 + 64) * 1000000 / 2 ^ 58 : Nat) = u.1 / u.2 * 1000000 + u.1 % u.2 * 1000000 / u.2)
def v_cws (A B p1 p2 p3 p4 p5 : Nat) : Bool :=
  v_all (fun m1 => v_all (fun m2 => v_all (fun m3 => v_all (fun m4 => v_all (fun m5 => v_cw A B p1 p2 p3 p4 p5 m1 m2 m3 m4 m5) (bif v_sq A B 5 then 3 else 1)) (bif v_sq A B 4 then 5 else 1)) (bif v_sq A B 3 then 7 else 1)) (bif v_sq A B 2 then 9 else 1)) (bif v_sq A B 1 then 11 else 1)
def v_boot (A B : Nat) : Bool :=
  (v_rok A B 1 && v_rok A B 2 && v_rok A B 3 && v_rok A B 4 && v_rok A B 5) &&
  (v_df false 56 48 300000 A B (v_rt A B 1) (v_rt A B 2) (v_rt A B 3) (v_rt A B 4) (v_rt A B 5) &&
  (v_df true 66 58 310000000 A B (v_pl A B 1) (v_pl A B 2) (v_pl A B 3) (v_pl A B 4) (v_pl A B 5) &&
  (v_ct 56 48 1000 64000 64000 A B (v_rt A B 1) (v_rt A B 2) (v_rt A B 3) (v_rt A B 4) (v_rt A B 5) &&
  (v_ct 66 58 1000000 64000000 125000000 A B (v_pl A B 1) (v_pl A B 2) (v_pl A B 3) (v_pl A B 4) (v_pl A B 5) &&
  v_cws A B (v_pl A B 1) (v_pl A B 2) (v_pl A B 3) (v_pl A B 4) (v_pl A B 5)))))
def v_row (A a n : Nat) : Bool := v_all (fun i => v_boot A (a + i)) n
/-- every boot stands the check -/
def v_Ok : Prop := ∀ A B, 1 ≤ A → A ≤ 99 → 1 ≤ B → B ≤ 99 → v_boot A B = true
theorem v_all_ok {f : Nat → Bool} : ∀ {n : Nat}, v_all f n = true → ∀ i, i < n → f i = true
  | 0, _, i, hi => absurd hi (Nat.not_lt_zero _)
  | n + 1, h, i, hi => by
    rw [v_all, Bool.and_eq_true] at h
    by_cases c : i = n
    · rw [c]; exact h.2
    · exact v_all_ok h.1 i (by omega)
