/-! ===== the law's loop ===== -/
section Loop
variable {sp : Nat → Nat} {d : Nat} {m m1 m2 : y_m} {i : Int}
theorem e_63 (x : Int) : 0 ≤ z_iand x 63 ∧ z_iand x 63 < 64 := by
  have e : ((Int32.ofInt x).toBitVec &&& (Int32.ofInt 63).toBitVec).toNat < 64 := by
    rw [BitVec.toNat_and]
    exact Nat.lt_of_le_of_lt Nat.and_le_right (by decide)
  have e2 : z_iand x 63 = (((Int32.ofInt x).toBitVec &&& (Int32.ofInt 63).toBitVec).toNat : Int) := by
    show (Int32.ofInt x &&& Int32.ofInt 63).toBitVec.toInt = _
    rw [Int32.toBitVec_and, n_ti (by omega)]
  omega
theorem x_body {s : x_St} (okv : v_Ok) (hst : x_st m s) (h0 : 0 ≤ i) (h1 : i + 6 ≤ (sp 600001 : Int)) (h2 : sp 600001 ≤ 3072) : ∃ m2 s', y_R sp true (d + 31) 317 23 [some (y_bo 105 0 600000), some (y_bo 10 0 0), some (y_bo 11 0 49), some (y_bo 101 1 105), some (y_bi i), none, none, none] [] m = y_R sp true (d + 31) 317 23 [some (y_bo 105 0 600000), some (y_bo 10 0 0), some (y_bo 11 0 49), some (y_bo 101 1 105), some (y_bi (i + 6)), none, none, none] [] m2 ∧ x_st m2 s' ∧ m2.1 ≤ m.1 + 2 ∧ m2.2.1 ≤ m.2.1 + 13 := by
  have hg : ∀ k : Int, 0 ≤ k → k ≤ 5 → 0 ≤ i + k ∧ i + k < (sp 600001 : Int) ∧ sp 600001 ≤ 1000000 := fun k a b => ⟨by omega, by omega, by omega⟩
  have top : ∀ pc, y_R sp true (d + 31) 317 23 [some (y_bo 105 0 600000), some (y_bo 10 0 0), some (y_bo 11 0 49), some (y_bo 101 1 105), some (y_bi i), none, none, none] [] m = (if z_w ((sp 600001 : Int) - 6) < z_w i then y_R sp true (d + 31) 317 1583 [none, none, none, none, none, none, none, none] [] m else y_g (0 ≤ i ∧ i < (sp 600001 : Int) ∧ sp 600001 ≤ 1000000) (y_R sp true (d + 31) 317 pc [some (y_bo 105 0 600000), some (y_bo 10 0 0), some (y_bo 11 0 49), some (y_bo 101 1 105), some (y_bi i), none, none, none] [] m)) → x_go sp d i pc m → ∃ m2 s', y_R sp true (d + 31) 317 23 [some (y_bo 105 0 600000), some (y_bo 10 0 0), some (y_bo 11 0 49), some (y_bo 101 1 105), some (y_bi i), none, none, none] [] m = y_R sp true (d + 31) 317 23 [some (y_bo 105 0 600000), some (y_bo 10 0 0), some (y_bo 11 0 49), some (y_bo 101 1 105), some (y_bi (i + 6)), none, none, none] [] m2 ∧ x_st m2 s' ∧ m2.1 ≤ m.1 + 2 ∧ m2.2.1 ≤ m.2.1 + 13 := fun pc e g => by
    obtain ⟨m2, s', g1, g2, g3, g4⟩ := g
    refine ⟨m2, s', ?_, g2, g3, g4⟩
    rw [e, if_neg (by rw [z_w_id (by omega) (by omega), z_w_id (by omega) (by omega)]; omega), e_g ⟨h0, by omega, by omega⟩, g1, y_E_317_1577]
  have b := e_63 (z_sv sp i.toNat)
  have ew : z_w (z_iand (z_sv sp i.toNat) 63) = z_iand (z_sv sp i.toNat) 63 := z_w_id (by omega) (by omega)
  by_cases c : 33 < z_iand (z_sv sp i.toNat) 63
  · exact top 1577 (y_E_317_23_d (d + 31) 600000 0 49 105 i m (by rw [ew]; exact Or.inr c)) ⟨m, s, rfl, hst, by omega, by omega⟩
  · have cs : z_iand (z_sv sp i.toNat) 63 = 0 ∨ z_iand (z_sv sp i.toNat) 63 = 1 ∨ z_iand (z_sv sp i.toNat) 63 = 2 ∨ z_iand (z_sv sp i.toNat) 63 = 3 ∨ z_iand (z_sv sp i.toNat) 63 = 4 ∨ z_iand (z_sv sp i.toNat) 63 = 5 ∨ z_iand (z_sv sp i.toNat) 63 = 6 ∨ z_iand (z_sv sp i.toNat) 63 = 7 ∨ z_iand (z_sv sp i.toNat) 63 = 8 ∨ z_iand (z_sv sp i.toNat) 63 = 9 ∨ z_iand (z_sv sp i.toNat) 63 = 10 ∨ z_iand (z_sv sp i.toNat) 63 = 11 ∨ z_iand (z_sv sp i.toNat) 63 = 12 ∨ z_iand (z_sv sp i.toNat) 63 = 13 ∨ z_iand (z_sv sp i.toNat) 63 = 14 ∨ z_iand (z_sv sp i.toNat) 63 = 15 ∨ z_iand (z_sv sp i.toNat) 63 = 16 ∨ z_iand (z_sv sp i.toNat) 63 = 17 ∨ z_iand (z_sv sp i.toNat) 63 = 18 ∨ z_iand (z_sv sp i.toNat) 63 = 19 ∨ z_iand (z_sv sp i.toNat) 63 = 20 ∨ z_iand (z_sv sp i.toNat) 63 = 21 ∨ z_iand (z_sv sp i.toNat) 63 = 22 ∨ z_iand (z_sv sp i.toNat) 63 = 23 ∨ z_iand (z_sv sp i.toNat) 63 = 24 ∨ z_iand (z_sv sp i.toNat) 63 = 25 ∨ z_iand (z_sv sp i.toNat) 63 = 26 ∨ z_iand (z_sv sp i.toNat) 63 = 27 ∨ z_iand (z_sv sp i.toNat) 63 = 28 ∨ z_iand (z_sv sp i.toNat) 63 = 29 ∨ z_iand (z_sv sp i.toNat) 63 = 30 ∨ z_iand (z_sv sp i.toNat) 63 = 31 ∨ z_iand (z_sv sp i.toNat) 63 = 32 ∨ z_iand (z_sv sp i.toNat) 63 = 33 := by omega
    rcases cs with e | e | e | e | e | e | e | e | e | e | e | e | e | e | e | e | e | e | e | e | e | e | e | e | e | e | e | e | e | e | e | e | e | e
    · exact top 192 (y_E_317_23_0 (d + 31) 600000 0 49 105 i m (by rw [ew]; exact e)) (x_q192 hst hg)
    · exact top 265 (y_E_317_23_1 (d + 31) 600000 0 49 105 i m (by rw [ew]; exact e)) (x_q265 okv hst hg)
    · exact top 321 (y_E_317_23_2 (d + 31) 600000 0 49 105 i m (by rw [ew]; exact e)) (x_q321 hst hg)
    · exact top 377 (y_E_317_23_3 (d + 31) 600000 0 49 105 i m (by rw [ew]; exact e)) (x_q377 hst hg)
    · exact top 390 (y_E_317_23_4 (d + 31) 600000 0 49 105 i m (by rw [ew]; exact e)) (x_q390 hst hg)
    · exact top 446 (y_E_317_23_5 (d + 31) 600000 0 49 105 i m (by rw [ew]; exact e)) (x_q446 hst hg)
    · exact top 514 (y_E_317_23_6 (d + 31) 600000 0 49 105 i m (by rw [ew]; exact e)) (x_q514 hst hg)
    · exact top 539 (y_E_317_23_7 (d + 31) 600000 0 49 105 i m (by rw [ew]; exact e)) (x_q539 hst hg)
    · exact top 583 (y_E_317_23_8 (d + 31) 600000 0 49 105 i m (by rw [ew]; exact e)) (x_q583 hst hg)
    · exact top 639 (y_E_317_23_9 (d + 31) 600000 0 49 105 i m (by rw [ew]; exact e)) (x_q639 hst hg)
    · exact top 682 (y_E_317_23_10 (d + 31) 600000 0 49 105 i m (by rw [ew]; exact e)) (x_q682 hst hg)
    · exact top 737 (y_E_317_23_11 (d + 31) 600000 0 49 105 i m (by rw [ew]; exact e)) (x_q737 hst hg)
    · exact top 837 (y_E_317_23_12 (d + 31) 600000 0 49 105 i m (by rw [ew]; exact e)) (x_q837 hst hg)
    · exact top 905 (y_E_317_23_13 (d + 31) 600000 0 49 105 i m (by rw [ew]; exact e)) (x_q905 hst hg)
    · exact top 949 (y_E_317_23_14 (d + 31) 600000 0 49 105 i m (by rw [ew]; exact e)) (x_q949 hst hg)
    · exact top 962 (y_E_317_23_15 (d + 31) 600000 0 49 105 i m (by rw [ew]; exact e)) (x_q962 hst hg)
    · exact top 975 (y_E_317_23_16 (d + 31) 600000 0 49 105 i m (by rw [ew]; exact e)) (x_q975 hst hg)
    · exact top 988 (y_E_317_23_17 (d + 31) 600000 0 49 105 i m (by rw [ew]; exact e)) (x_q988 hst hg)
    · exact top 1032 (y_E_317_23_18 (d + 31) 600000 0 49 105 i m (by rw [ew]; exact e)) (x_q1032 hst hg)
    · exact top 1088 (y_E_317_23_19 (d + 31) 600000 0 49 105 i m (by rw [ew]; exact e)) (x_q1088 hst hg)
    · exact top 1101 (y_E_317_23_20 (d + 31) 600000 0 49 105 i m (by rw [ew]; exact e)) (x_q1101 hst hg)
    · exact top 1169 (y_E_317_23_21 (d + 31) 600000 0 49 105 i m (by rw [ew]; exact e)) (x_q1169 hst hg)
    · exact top 1182 (y_E_317_23_22 (d + 31) 600000 0 49 105 i m (by rw [ew]; exact e)) (x_q1182 hst hg)
    · exact top 1195 (y_E_317_23_23 (d + 31) 600000 0 49 105 i m (by rw [ew]; exact e)) (x_q1195 hst hg)
    · exact top 1208 (y_E_317_23_24 (d + 31) 600000 0 49 105 i m (by rw [ew]; exact e)) (x_q1208 hst hg)
    · exact top 1252 (y_E_317_23_25 (d + 31) 600000 0 49 105 i m (by rw [ew]; exact e)) (x_q1252 hst hg)
    · exact top 1320 (y_E_317_23_26 (d + 31) 600000 0 49 105 i m (by rw [ew]; exact e)) (x_q1320 hst hg)
    · exact top 1376 (y_E_317_23_27 (d + 31) 600000 0 49 105 i m (by rw [ew]; exact e)) (x_q1376 hst hg)
    · exact top 1420 (y_E_317_23_28 (d + 31) 600000 0 49 105 i m (by rw [ew]; exact e)) (x_q1420 hst hg)
    · exact top 1433 (y_E_317_23_29 (d + 31) 600000 0 49 105 i m (by rw [ew]; exact e)) (x_q1433 hst hg)
    · exact top 1501 (y_E_317_23_30 (d + 31) 600000 0 49 105 i m (by rw [ew]; exact e)) (x_q1501 hst hg)
    · exact top 1526 (y_E_317_23_31 (d + 31) 600000 0 49 105 i m (by rw [ew]; exact e)) (x_q1526 hst hg)
    · exact top 1539 (y_E_317_23_32 (d + 31) 600000 0 49 105 i m (by rw [ew]; exact e)) (x_q1539 hst hg)
    · exact top 1552 (y_E_317_23_33 (d + 31) 600000 0 49 105 i m (by rw [ew]; exact e)) (x_q1552 hst hg)
theorem x_loop (okv : v_Ok) (h2 : sp 600001 ≤ 3072) : ∀ (n : Nat) (i : Nat) (m : y_m) (s : x_St), x_st m s → sp 600001 < i + 6 * n + 6 → i ≤ 3100 → ∃ mF, y_R sp true (d + 31) 317 23 [some (y_bo 105 0 600000), some (y_bo 10 0 0), some (y_bo 11 0 49), some (y_bo 101 1 105), some (y_bi (i : Int)), none, none, none] [] m = y_rI 1 mF ∧ mF.1 ≤ m.1 + 2 * n ∧ mF.2.1 ≤ m.2.1 + 13 * n := by
  intro n
  induction n with
  | zero =>
    intro i m s hst hi hb
    exact ⟨m, by rw [y_E_317_23_x (h := by rw [z_w_id (by omega) (by omega), z_w_id (by omega) (by omega)]; omega), y_E_317_1583], by omega, by omega⟩
  | succ n ih =>
    intro i m s hst hi hb
    by_cases c : i + 6 ≤ sp 600001
    · obtain ⟨m2, s', g1, g2, g3, g4⟩ := x_body (d := d) (i := (i : Int)) okv hst (by omega) (by omega) h2
      obtain ⟨mF, f1, f2, f3⟩ := ih (i + 6) m2 s' g2 (by omega) (by omega)
      refine ⟨mF, ?_, by omega, by omega⟩
      rw [g1, show (i : Int) + 6 = ((i + 6 : Nat) : Int) by omega]
      exact f1
    · exact ⟨m, by rw [y_E_317_23_x (h := by rw [z_w_id (by omega) (by omega), z_w_id (by omega) (by omega)]; omega), y_E_317_1583], by omega, by omega⟩
end Loop
