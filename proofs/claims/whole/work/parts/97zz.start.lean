/-! ===== the law's run, from its first place ===== -/
section Start
variable {sp : Nat → Nat}
def x_s0 : x_St := ((6, 6, 30, 20, 0, 0, 9999), [], (fun _ => 0), 0, -1, [], [], [])
theorem x_st0 {m : y_m} (okv : v_Ok) (hc : y_mc m = 29) (hx : y_mx m = 30) (h29 : y_mI m 29 0 = 6 ∧ y_mI m 29 1 = 6 ∧ y_mI m 29 2 = 30 ∧ y_mI m 29 3 = 20 ∧ y_mI m 29 4 = 0 ∧ y_mI m 29 5 = 0 ∧ y_mI m 29 6 = 9999) (h23 : y_mI m 23 1 = 0) (h61 : y_mI m 6 1 = -1) (h86 : y_mI m 8 6 = -1) (h84 : y_mI m 8 4 = 0) (h11 : y_mI m 1 1 = 0) (h012 : y_mI m 0 12 = -1) (h251 : y_mI m 25 1 = 0) (h252 : y_mI m 25 2 = 0) (h223 : y_mI m 22 3 = 0) (h011 : y_mI m 0 11 = 0) (h32 : y_mI m 3 2 = 20) (hms : ∀ g, g < 6 → q_ms m g 30 (30 * 30 + g * g * 20 * 20))
    (h52 : ∀ j, j < 7 → y_mI m 52 j = k_v7 j) (hrt : ∀ k, 1 ≤ k → k < 6 → q_rt m k 30 (30 * 30 + k * k * 20 * 20)) (h491 : y_mI m 49 1 = 0) (h493 : y_mI m 49 3 = -1) (h13 : y_mI m 49 13 = 0) (h14 : y_mI m 49 14 = 0) (h15 : y_mI m 49 15 = 0) (h16 : y_mI m 49 16 = 0) : x_st m x_s0 := by
  have hB : m_B 6 6 30 20 := m_B_ok okv (by decide) (by decide) (by decide) (by decide) (by decide) (by decide)
  obtain ⟨a0, a1, a2, a3, a4, a5, a6⟩ := h29
  refine ⟨⟨⟨?_, Or.inl h61, ?_, Or.inl h86, Or.inl h84⟩, Or.inl ⟨hc, hx⟩, ⟨h11, by decide, fun i hi => absurd hi (Nat.not_lt_zero i)⟩, h012, ⟨h251, ⟨0, by decide, h252, fun h => by rw [Nat.zero_testBit]; rfl⟩, fun pr hp => absurd hp List.not_mem_nil⟩, ⟨h223, fun i hi => absurd hi (Nat.not_lt_zero i)⟩, h011, fun i hi => absurd hi (Nat.not_lt_zero i)⟩,
    ⟨⟨⟨h52 0 (by decide), h52 1 (by decide), h52 2 (by decide), h52 3 (by decide), h52 4 (by decide), h52 6 (by decide), by decide, by decide, ⟨by decide, by decide, by decide, h52 2 (by decide), fun k h1 h2 => ?_⟩, hB⟩, h52 5 (by decide), by decide, h13, by decide, fun i hi => absurd hi (Nat.not_lt_zero i)⟩, ⟨h491, by decide, fun i hi => absurd hi (Nat.not_lt_zero i)⟩, h493, ⟨h14, fun i hi => absurd hi (Nat.not_lt_zero i)⟩, ⟨h15, fun i hi => absurd hi (Nat.not_lt_zero i)⟩, h16, fun i hi => absurd hi (Nat.not_lt_zero i)⟩,
    ⟨by decide, by decide, by decide, ⟨by decide, List.nodup_nil, fun h hh => absurd hh List.not_mem_nil⟩, ⟨by decide, fun h hh => absurd hh List.not_mem_nil⟩, by decide, fun h hh => absurd hh List.not_mem_nil⟩⟩
  · refine ⟨Or.inl hc, by rw [hc]; exact a0, by rw [hc]; exact a1, by rw [hc]; exact a2, by rw [hc]; exact a3, by rw [hc]; exact a4, by rw [hc]; exact a5, by rw [hc]; exact a6, by decide, by decide, by decide, by decide, by decide, by decide, ⟨h23, by decide, fun i hi => absurd hi (Nat.not_lt_zero i)⟩, fun h hh => absurd hh List.not_mem_nil, List.nodup_nil, Or.inl rfl⟩
  · exact ⟨hB, by decide, by rw [hc]; exact a0, by rw [hc]; exact a1, by rw [hc]; exact a5, h32, fun g hg => m_ms_ok hB hg (hms g hg), Or.inl hc⟩
  · exact hrt k h1 h2
theorem z_run_ph {rz : Bool} {hd : List (Nat × Nat)} {C : Bool → Nat → List z_Av → z_M → Bool → z_Ot → z_M → Prop} {X : Bool → z_Ot → z_M → Prop} {cd : z_Cd} {t : Nat} {L : z_L} {S : List z_Av} {M : z_M} (hn : z_KL.length ≤ z_n M) : ∀ n, z_run sp rz hd C cd X n t (true, 0) L S M → z_run sp rz hd C cd X n t (false, 0) L S M
  | 0, h => h
  | n + 1, ⟨b, P', h1, h2, h3⟩ => by
    refine ⟨b, P', h1, Or.inr ⟨?_, hn⟩, h3⟩
    rcases h2 with h2 | h2
    · exact h2
    · exact h2.1
def x_L0 : z_L := [some (z_r (some 600000)), none, none, none, none, none, none, none]
def x_L1 : z_L := [some (z_r (some 600000)), some (z_r (some 0)), none, none, none, none, none, none]
def x_L2 : z_L := [some (z_r (some 600000)), some (z_r (some 0)), some (z_r (some 49)), some (z_r (some 105)), some (z_i 0), none, none, none]
def x_is : List z_In := z_b_317_0.2.2.1
abbrev x_cl : Nat → List z_Av → z_M → Option z_M := fun _ _ _ => none
theorem x_e1 : k_xs x_cl 23 x_is x_L0 [] z_M0 = .inl (x_is.drop 2, x_L0, [z_r (some 0), z_r (some 0)], k_M0) := rfl
theorem x_e2 {s : Nat} {R : Nat → Nat → Option Nat} {I J : Nat → Nat → Int} : k_xs x_cl 23 (x_is.drop 3) x_L0 [z_r (some 0)] (49, s, R, I, J) = .inl (x_is.drop 6, x_L1, [z_r (some 49), z_r (some 49)], k_MN s R I J) := rfl
theorem x_e3 {s : Nat} {R : Nat → Nat → Option Nat} {I J : Nat → Nat → Int} : k_xs x_cl 23 (x_is.drop 7) x_L1 [z_r (some 49)] (105, s, R, I, J) = .inr (23, x_L2, [], (106, s + 1, R, I, z_row J 105 (fun _ => 0))) := rfl
theorem x_317 {X : Bool → z_Ot → z_M → Prop} {M3 M5 : z_M} (h1 : z_Run sp z_mt 31 false 135 [z_r (some 0)] k_M0 false (.inl none) M3) (n1 : z_n M3 = 49) (h2 : z_Run sp z_mt 31 false 176 [z_r (some 49)] (k_MN (z_s M3) (z_R M3) (z_I M3) (z_J M3)) false (.inl none) M5) (n2 : z_n M5 = 105)
    (h3 : z_ru sp z_md_317.1 z_md_317.2.1 (z_Run sp z_mt 31) z_md_317.2.2.1 X 23 (false, 0) x_L2 [] (106, z_s M5 + 1, z_R M5, z_I M5, z_row (z_J M5) 105 (fun _ => 0))) : z_ru sp z_md_317.1 z_md_317.2.1 (z_Run sp z_mt 31) z_md_317.2.2.1 X 0 (false, 0) (z_ent 8 [z_r (some 600000)]) [] z_M0 := by
  obtain ⟨m1, s3, R3, I3, J3⟩ := M3
  have n1' : m1 = 49 := n1
  subst n1'
  obtain ⟨m2, s5, R5, I5, J5⟩ := M5
  have n2' : m2 = 105 := n2
  subst n2'
  have hb : z_md_317.2.2.1 0 = some (z_b_317_0.2.1, x_is, 23) := rfl
  refine z_ru_blk hb ?_
  have e0 : z_msk z_b_317_0.2.1 (z_ent 8 [z_r (some 600000)]) = x_L0 := rfl
  rw [e0]
  refine k_xs_ok (cl := x_cl) (fun _ _ _ _ h => (by cases h)) _ _ _ _ ?_
  rw [x_e1]
  refine ⟨[z_r (some 0)], [z_r (some 0)], .inl none, (49, s3, R3, I3, J3), false, false, rfl, rfl, ⟨0, [], rfl⟩, Or.inl rfl, h1, by decide, ?_⟩
  refine k_xs_ok (cl := x_cl) (fun _ _ _ _ h => (by cases h)) (x_is.drop 3) _ _ _ ?_
  rw [show k_xs x_cl 23 (x_is.drop 3) x_L0 ((none : Option z_Av).toList ++ [z_r (some 0)]) (49, s3, R3, I3, J3) = _ from x_e2]
  refine ⟨[z_r (some 49)], [z_r (some 49)], .inl none, (105, s5, R5, I5, J5), false, false, rfl, rfl, ⟨49, [], rfl⟩, Or.inl rfl, h2, by decide, ?_⟩
  refine k_xs_ok (cl := x_cl) (fun _ _ _ _ h => (by cases h)) (x_is.drop 7) _ _ _ ?_
  rw [show k_xs x_cl 23 (x_is.drop 7) x_L1 ((none : Option z_Av).toList ++ [z_r (some 49)]) (105, s5, R5, I5, J5) = _ from x_e3]
  exact h3
end Start
