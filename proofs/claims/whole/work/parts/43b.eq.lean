section YEq135_175
variable {sp : Nat → Nat} {ph : Bool}
/-! LacedHoles.feed (IIIII)I -/
set_option maxRecDepth 4000 in
theorem y_E_136_0 (d : Nat) (a0 : Nat) (x1 : Int) (x2 : Int) (x3 : Int) (x4 : Int) (x5 : Int) (m : y_m) : y_R sp ph d 136 0 [some (y_bo 10 0 a0), some (y_bi x1), some (y_bi x2), some (y_bi x3), some (y_bi x4), some (y_bi x5)] [] m = y_bI (y_V sp ph d 12 [y_bo 6 0 1] m) (fun v1 m1 => if ¬ z_w v1 = 0 then y_R sp ph d 136 12 [some (y_bo 10 0 a0), some (y_bi x1), some (y_bi x2), some (y_bi x3), some (y_bi x4), some (y_bi x5)] [] m1 else y_rI (-1) m1) (fun e m1 => y_px e m1) := by
  rw [y_R_eq (md := z_md_136) rfl rfl]
  exact (y_bIc fun v1 m1 => (y_sh (L' := [some (y_bo 10 0 a0), some (y_bi x1), some (y_bi x2), some (y_bi x3), some (y_bi x4), some (y_bi x5)]) (S' := [y_bi v1]) rfl rfl rfl))
set_option maxRecDepth 4000 in
theorem y_E_136_12 (d : Nat) (a0 : Nat) (x1 : Int) (x2 : Int) (x3 : Int) (x4 : Int) (x5 : Int) (m : y_m) : y_R sp ph d 136 12 [some (y_bo 10 0 a0), some (y_bi x1), some (y_bi x2), some (y_bi x3), some (y_bi x4), some (y_bi x5)] [] m = y_bV (y_V sp ph d 13 [y_bo 6 0 1, y_bi x1] m) (fun m1 => y_bV (y_V sp ph d 13 [y_bo 6 0 1, y_bi x2] m1) (fun m2 => y_bV (y_V sp ph d 13 [y_bo 6 0 1, y_bi x3] m2) (fun m3 => y_bV (y_V sp ph d 13 [y_bo 6 0 1, y_bi x4] m3) (fun m4 => y_bV (y_V sp ph d 13 [y_bo 6 0 1, y_bi x5] m4) (fun m5 => y_bI (y_V sp ph d 14 [y_bo 6 0 1] m5) (fun v6 m6 => y_rI v6 m6) (fun e m1 => y_px e m1)) (fun e m1 => y_px e m1)) (fun e m1 => y_px e m1)) (fun e m1 => y_px e m1)) (fun e m1 => y_px e m1)) (fun e m1 => y_px e m1) := by
  rw [y_R_eq (md := z_md_136) rfl rfl]
  exact (y_bVc fun m1 => (y_sh (L' := [some (y_bo 10 0 a0), some (y_bi x1), some (y_bi x2), some (y_bi x3), some (y_bi x4), some (y_bi x5)]) (S' := []) rfl rfl (y_bVc fun m2 => (y_sh (L' := [some (y_bo 10 0 a0), some (y_bi x1), some (y_bi x2), some (y_bi x3), some (y_bi x4), some (y_bi x5)]) (S' := []) rfl rfl (y_bVc fun m3 => (y_sh (L' := [some (y_bo 10 0 a0), some (y_bi x1), some (y_bi x2), some (y_bi x3), some (y_bi x4), some (y_bi x5)]) (S' := []) rfl rfl (y_bVc fun m4 => (y_sh (L' := [some (y_bo 10 0 a0), some (y_bi x1), some (y_bi x2), some (y_bi x3), some (y_bi x4), some (y_bi x5)]) (S' := []) rfl rfl (y_bVc fun m5 => (y_sh (L' := [some (y_bo 10 0 a0), some (y_bi x1), some (y_bi x2), some (y_bi x3), some (y_bi x4), some (y_bi x5)]) (S' := []) rfl rfl (y_bIc fun v6 m6 => (y_sh (L' := [some (y_bo 10 0 a0), some (y_bi x1), some (y_bi x2), some (y_bi x3), some (y_bi x4), some (y_bi x5)]) (S' := [y_bi v6]) rfl rfl rfl))))))))))))
set_option maxRecDepth 4000 in
theorem y_C_136 (d : Nat) (a0 : Nat) (x1 : Int) (x2 : Int) (x3 : Int) (x4 : Int) (x5 : Int) (m : y_m) : y_V sp ph (d + 1) 136 [y_bo 10 0 a0, y_bi x1, y_bi x2, y_bi x3, y_bi x4, y_bi x5] m = y_R sp ph d 136 0 [some (y_bo 10 0 a0), some (y_bi x1), some (y_bi x2), some (y_bi x3), some (y_bi x4), some (y_bi x5)] [] m := (y_V_eq (md := z_md_136) rfl rfl rfl).trans rfl
/-! LacedHoles.boot (I)I -/
set_option maxRecDepth 4000 in
theorem y_E_137_0 (d : Nat) (a0 : Nat) (x1 : Int) (m : y_m) : y_R sp ph d 137 0 [some (y_bo 10 0 a0), some (y_bi x1), none] [] m = if z_w x1 < 0 then y_R sp ph d 137 15 [none, none, none] [] m else y_bI (y_V sp ph d 14 [y_bo 6 0 1] m) (fun v1 m1 => if z_w x1 ≤ z_w v1 then y_R sp ph d 137 25 [some (y_bo 10 0 a0), some (y_bi x1), none] [] m1 else y_R sp ph d 137 15 [none, none, none] [] m1) (fun e m1 => y_px e m1) := by
  rw [y_R_eq (md := z_md_137) rfl rfl]
  exact (y_ic rfl (y_bIc fun v1 m1 => (y_sh (L' := [some (y_bo 10 0 a0), some (y_bi x1), none]) (S' := [y_bi v1, y_bi x1]) rfl rfl rfl)))
set_option maxRecDepth 4000 in
theorem y_E_137_15 (d : Nat) (m : y_m) : y_R sp ph d 137 15 [none, none, none] [] m = y_bb2 (ph && true) (some (.inr 0, y_tm m)) := (y_R_eq (md := z_md_137) rfl rfl).trans rfl
set_option maxRecDepth 4000 in
theorem y_E_137_25 (d : Nat) (a0 : Nat) (x1 : Int) (m : y_m) : y_R sp ph d 137 25 [some (y_bo 10 0 a0), some (y_bi x1), none] [] m = y_bV (y_V sp ph d 16 [y_bo 6 0 1, y_bi x1] m) (fun m1 => y_bV (y_V sp ph d 34 [y_bo 0 0 (y_mx m1), y_bo 6 0 1] m1) (fun m2 => y_bV (y_V sp ph d 15 [y_bo 6 0 1] m2) (fun m3 => y_bI (y_V sp ph d 19 [y_bo 6 0 1] m3) (fun v4 m4 => y_bI (y_V sp ph d 17 [y_bo 6 0 1] (y_sI m4 a0 12 v4)) (fun v5 m5 => if z_w v5 = 0 then y_R sp ph d 137 83 [some (y_bo 10 0 a0), none, none] [] m5 else y_bI (y_V sp ph d 18 [y_bo 6 0 1] m5) (fun v6 m6 => y_rI (v6 - 10) m6) (fun e m1 => y_px e m1)) (fun e m1 => y_px e m1)) (fun e m1 => y_px e m1)) (fun e m1 => y_px e m1)) (fun e m1 => y_px e m1)) (fun e m1 => y_px e m1) := by
  rw [y_R_eq (md := z_md_137) rfl rfl]
  exact (y_bVc fun m1 => (y_sh (L' := [some (y_bo 10 0 a0), some (y_bi x1), none]) (S' := []) rfl rfl (y_bVc fun m2 => (y_sh (L' := [some (y_bo 10 0 a0), some (y_bi x1), none]) (S' := []) rfl rfl (y_bVc fun m3 => (y_sh (L' := [some (y_bo 10 0 a0), some (y_bi x1), none]) (S' := []) rfl rfl (y_bIc fun v4 m4 => (y_sh (L' := [some (y_bo 10 0 a0), some (y_bi x1), none]) (S' := [y_bi v4, y_bo 10 0 a0]) rfl rfl (y_bIc fun v5 m5 => (y_sh (L' := [some (y_bo 10 0 a0), some (y_bi x1), none]) (S' := [y_bi v5]) rfl rfl (y_ic rfl (y_bIc fun v6 m6 => (y_sh (L' := [some (y_bo 10 0 a0), some (y_bi x1), none]) (S' := [y_bi v6]) rfl rfl rfl)))))))))))))
set_option maxRecDepth 4000 in
theorem y_E_137_83 (d : Nat) (a0 : Nat) (m : y_m) : y_R sp ph d 137 83 [some (y_bo 10 0 a0), none, none] [] m = y_bV (y_V sp ph d 49 [y_bo 4 0 3, y_bi (y_mI (y_sB (y_sB m 9 (y_mx m)) 10 (y_mc m)) (y_mc (y_sB (y_sB m 9 (y_mx m)) 10 (y_mc m))) 2), y_bi (y_mI (y_sB (y_sB m 9 (y_mx m)) 10 (y_mc m)) (y_mc (y_sB (y_sB m 9 (y_mx m)) 10 (y_mc m))) 3)] (y_sB (y_sB m 9 (y_mx m)) 10 (y_mc m))) (fun m1 => y_bV (y_V sp ph d 107 [y_bo 2 0 8] m1) (fun m2 => y_bV (y_V sp ph d 86 [y_bo 5 0 22] m2) (fun m3 => y_bI (y_V sp ph d 41 [y_bo 0 0 (y_mc (y_sI m3 a0 11 0))] (y_sI m3 a0 11 0)) (fun v4 m4 => y_bI (y_V sp ph d 1 [y_bi v4] m4) (fun v5 m5 => y_rI v5 m5) (fun e m1 => y_px e m1)) (fun e m1 => y_px e m1)) (fun e m1 => y_px e m1)) (fun e m1 => y_px e m1)) (fun e m1 => y_px e m1) := by
  rw [y_R_eq (md := z_md_137) rfl rfl]
  exact (y_bVc fun m1 => (y_sh (L' := [some (y_bo 10 0 a0), none, some (y_bo 0 0 (y_mc m))]) (S' := []) rfl rfl (y_bVc fun m2 => (y_sh (L' := [some (y_bo 10 0 a0), none, some (y_bo 0 0 (y_mc m))]) (S' := []) rfl rfl (y_bVc fun m3 => (y_sh (L' := [some (y_bo 10 0 a0), none, some (y_bo 0 0 (y_mc m))]) (S' := []) rfl rfl (y_bIc fun v4 m4 => (y_sh (L' := [some (y_bo 10 0 a0), none, some (y_bo 0 0 (y_mc m))]) (S' := [y_bi v4]) rfl rfl (y_bIc fun v5 m5 => (y_sh (L' := [some (y_bo 10 0 a0), none, some (y_bo 0 0 (y_mc m))]) (S' := [y_bi v5]) rfl rfl rfl))))))))))
set_option maxRecDepth 4000 in
theorem y_C_137 (d : Nat) (a0 : Nat) (x1 : Int) (m : y_m) : y_V sp ph (d + 1) 137 [y_bo 10 0 a0, y_bi x1] m = y_R sp ph d 137 0 [some (y_bo 10 0 a0), some (y_bi x1), none] [] m := (y_V_eq (md := z_md_137) rfl rfl rfl).trans rfl
/-! LacedHoles.way (I)I -/
set_option maxRecDepth 4000 in
theorem y_E_138_0 (d : Nat) (a0 : Nat) (x1 : Int) (m : y_m) : y_R sp ph d 138 0 [some (y_bo 10 0 a0), some (y_bi x1)] [] m = if z_w x1 < 0 then y_R sp ph d 138 21 [none, none] [] m else y_bI (y_V sp ph d 14 [y_bo 6 0 1] m) (fun v1 m1 => if z_w v1 < z_w x1 then y_R sp ph d 138 21 [none, none] [] m1 else if z_w x1 ≤ 100 then y_R sp ph d 138 31 [some (y_bo 10 0 a0), some (y_bi x1)] [] m1 else y_R sp ph d 138 21 [none, none] [] m1) (fun e m1 => y_px e m1) := by
  rw [y_R_eq (md := z_md_138) rfl rfl]
  exact (y_ic rfl (y_bIc fun v1 m1 => (y_sh (L' := [some (y_bo 10 0 a0), some (y_bi x1)]) (S' := [y_bi v1, y_bi x1]) rfl rfl rfl)))
set_option maxRecDepth 4000 in
theorem y_E_138_21 (d : Nat) (m : y_m) : y_R sp ph d 138 21 [none, none] [] m = y_bb2 (ph && true) (some (.inr 0, y_tm m)) := (y_R_eq (md := z_md_138) rfl rfl).trans rfl
set_option maxRecDepth 4000 in
theorem y_E_138_31 (d : Nat) (a0 : Nat) (x1 : Int) (m : y_m) : y_R sp ph d 138 31 [some (y_bo 10 0 a0), some (y_bi x1)] [] m = y_bV (y_V sp ph d 16 [y_bo 6 0 1, y_bi x1] m) (fun m1 => y_bV (y_V sp ph d 69 [y_bo 8 0 20, y_bo 6 0 1, y_bo 0 0 (y_mc m1)] m1) (fun m2 => y_bV (y_V sp ph d 15 [y_bo 6 0 1] m2) (fun m3 => y_bI (y_V sp ph d 19 [y_bo 6 0 1] m3) (fun v4 m4 => y_bI (y_V sp ph d 17 [y_bo 6 0 1] (y_sI m4 a0 12 v4)) (fun v5 m5 => if z_w v5 = 0 then y_R sp ph d 138 93 [some (y_bo 10 0 a0), none] [] m5 else y_bI (y_V sp ph d 18 [y_bo 6 0 1] m5) (fun v6 m6 => y_rI (v6 - 10) m6) (fun e m1 => y_px e m1)) (fun e m1 => y_px e m1)) (fun e m1 => y_px e m1)) (fun e m1 => y_px e m1)) (fun e m1 => y_px e m1)) (fun e m1 => y_px e m1) := by
  rw [y_R_eq (md := z_md_138) rfl rfl]
  exact (y_bVc fun m1 => (y_sh (L' := [some (y_bo 10 0 a0), some (y_bi x1)]) (S' := []) rfl rfl (y_bVc fun m2 => (y_sh (L' := [some (y_bo 10 0 a0), some (y_bi x1)]) (S' := []) rfl rfl (y_bVc fun m3 => (y_sh (L' := [some (y_bo 10 0 a0), some (y_bi x1)]) (S' := []) rfl rfl (y_bIc fun v4 m4 => (y_sh (L' := [some (y_bo 10 0 a0), some (y_bi x1)]) (S' := [y_bi v4, y_bo 10 0 a0]) rfl rfl (y_bIc fun v5 m5 => (y_sh (L' := [some (y_bo 10 0 a0), some (y_bi x1)]) (S' := [y_bi v5]) rfl rfl (y_ic rfl (y_bIc fun v6 m6 => (y_sh (L' := [some (y_bo 10 0 a0), some (y_bi x1)]) (S' := [y_bi v6]) rfl rfl rfl)))))))))))))
set_option maxRecDepth 4000 in
theorem y_E_138_93 (d : Nat) (a0 : Nat) (m : y_m) : y_R sp ph d 138 93 [some (y_bo 10 0 a0), none] [] m = y_bI (y_V sp ph d 173 [y_bo 10 0 a0] m) (fun v1 m1 => y_rI v1 m1) (fun e m1 => y_px e m1) := by
  rw [y_R_eq (md := z_md_138) rfl rfl]
  exact (y_bIc fun v1 m1 => (y_sh (L' := [some (y_bo 10 0 a0), none]) (S' := [y_bi v1]) rfl rfl rfl))
set_option maxRecDepth 4000 in
theorem y_C_138 (d : Nat) (a0 : Nat) (x1 : Int) (m : y_m) : y_V sp ph (d + 1) 138 [y_bo 10 0 a0, y_bi x1] m = y_R sp ph d 138 0 [some (y_bo 10 0 a0), some (y_bi x1)] [] m := (y_V_eq (md := z_md_138) rfl rfl rfl).trans rfl
/-! LacedHoles.fault ()I -/
set_option maxRecDepth 4000 in
theorem y_E_139_0 (d : Nat) (a0 : Nat) (m : y_m) : y_R sp ph d 139 0 [some (y_bo 10 0 a0)] [] m = y_rI (y_mI m a0 12) m := (y_R_eq (md := z_md_139) rfl rfl).trans rfl
set_option maxRecDepth 4000 in
theorem y_C_139 (d : Nat) (a0 : Nat) (m : y_m) : y_V sp ph (d + 1) 139 [y_bo 10 0 a0] m = y_R sp ph d 139 0 [some (y_bo 10 0 a0)] [] m := (y_V_eq (md := z_md_139) rfl rfl rfl).trans rfl
/-! LacedHoles.told (I)I -/
set_option maxRecDepth 4000 in
theorem y_E_140_0_d (d : Nat) (a0 : Nat) (x1 : Int) (m : y_m) (h : z_w x1 < 0 ∨ 7 < z_w x1) : y_R sp ph d 140 0 [some (y_bo 10 0 a0), some (y_bi x1)] [] m = y_R sp ph d 140 115 [none, none] [] m := by
  rw [y_R_eq (md := z_md_140) rfl rfl]
  exact (by
    show (if z_w x1 < _ ∨ _ < z_w x1 then _ else _) = _
    rw [if_pos h]; rfl)
set_option maxRecDepth 4000 in
theorem y_E_140_0_0 (d : Nat) (a0 : Nat) (x1 : Int) (m : y_m) (h : z_w x1 = 0) : y_R sp ph d 140 0 [some (y_bo 10 0 a0), some (y_bi x1)] [] m = y_R sp ph d 140 48 [some (y_bo 10 0 a0), none] [] m := by
  rw [y_R_eq (md := z_md_140) rfl rfl]
  exact (by
    show (if z_w x1 < _ ∨ _ < z_w x1 then _ else _) = _
    rw [h]; rfl)
set_option maxRecDepth 4000 in
theorem y_E_140_0_1 (d : Nat) (a0 : Nat) (x1 : Int) (m : y_m) (h : z_w x1 = 1) : y_R sp ph d 140 0 [some (y_bo 10 0 a0), some (y_bi x1)] [] m = y_R sp ph d 140 56 [some (y_bo 10 0 a0), none] [] m := by
  rw [y_R_eq (md := z_md_140) rfl rfl]
  exact (by
    show (if z_w x1 < _ ∨ _ < z_w x1 then _ else _) = _
    rw [h]; rfl)
set_option maxRecDepth 4000 in
theorem y_E_140_0_2 (d : Nat) (a0 : Nat) (x1 : Int) (m : y_m) (h : z_w x1 = 2) : y_R sp ph d 140 0 [some (y_bo 10 0 a0), some (y_bi x1)] [] m = y_R sp ph d 140 64 [some (y_bo 10 0 a0), none] [] m := by
  rw [y_R_eq (md := z_md_140) rfl rfl]
  exact (by
    show (if z_w x1 < _ ∨ _ < z_w x1 then _ else _) = _
    rw [h]; rfl)
set_option maxRecDepth 4000 in
theorem y_E_140_0_3 (d : Nat) (a0 : Nat) (x1 : Int) (m : y_m) (h : z_w x1 = 3) : y_R sp ph d 140 0 [some (y_bo 10 0 a0), some (y_bi x1)] [] m = y_R sp ph d 140 72 [some (y_bo 10 0 a0), none] [] m := by
  rw [y_R_eq (md := z_md_140) rfl rfl]
  exact (by
    show (if z_w x1 < _ ∨ _ < z_w x1 then _ else _) = _
    rw [h]; rfl)
set_option maxRecDepth 4000 in
theorem y_E_140_0_4 (d : Nat) (a0 : Nat) (x1 : Int) (m : y_m) (h : z_w x1 = 4) : y_R sp ph d 140 0 [some (y_bo 10 0 a0), some (y_bi x1)] [] m = y_R sp ph d 140 80 [some (y_bo 10 0 a0), none] [] m := by
  rw [y_R_eq (md := z_md_140) rfl rfl]
  exact (by
    show (if z_w x1 < _ ∨ _ < z_w x1 then _ else _) = _
    rw [h]; rfl)
set_option maxRecDepth 4000 in
theorem y_E_140_0_5 (d : Nat) (a0 : Nat) (x1 : Int) (m : y_m) (h : z_w x1 = 5) : y_R sp ph d 140 0 [some (y_bo 10 0 a0), some (y_bi x1)] [] m = y_R sp ph d 140 88 [some (y_bo 10 0 a0), none] [] m := by
  rw [y_R_eq (md := z_md_140) rfl rfl]
  exact (by
    show (if z_w x1 < _ ∨ _ < z_w x1 then _ else _) = _
    rw [h]; rfl)
set_option maxRecDepth 4000 in
theorem y_E_140_0_6 (d : Nat) (a0 : Nat) (x1 : Int) (m : y_m) (h : z_w x1 = 6) : y_R sp ph d 140 0 [some (y_bo 10 0 a0), some (y_bi x1)] [] m = y_R sp ph d 140 96 [some (y_bo 10 0 a0), none] [] m := by
  rw [y_R_eq (md := z_md_140) rfl rfl]
  exact (by
    show (if z_w x1 < _ ∨ _ < z_w x1 then _ else _) = _
    rw [h]; rfl)
set_option maxRecDepth 4000 in
theorem y_E_140_0_7 (d : Nat) (a0 : Nat) (x1 : Int) (m : y_m) (h : z_w x1 = 7) : y_R sp ph d 140 0 [some (y_bo 10 0 a0), some (y_bi x1)] [] m = y_R sp ph d 140 104 [some (y_bo 10 0 a0), none] [] m := by
  rw [y_R_eq (md := z_md_140) rfl rfl]
  exact (by
    show (if z_w x1 < _ ∨ _ < z_w x1 then _ else _) = _
    rw [h]; rfl)
set_option maxRecDepth 4000 in
theorem y_E_140_48 (d : Nat) (a0 : Nat) (m : y_m) : y_R sp ph d 140 48 [some (y_bo 10 0 a0), none] [] m = y_rI (y_mI m (y_mc m) 0) m := (y_R_eq (md := z_md_140) rfl rfl).trans rfl
set_option maxRecDepth 4000 in
theorem y_E_140_56 (d : Nat) (a0 : Nat) (m : y_m) : y_R sp ph d 140 56 [some (y_bo 10 0 a0), none] [] m = y_rI (y_mI m (y_mc m) 1) m := (y_R_eq (md := z_md_140) rfl rfl).trans rfl
set_option maxRecDepth 4000 in
theorem y_E_140_64 (d : Nat) (a0 : Nat) (m : y_m) : y_R sp ph d 140 64 [some (y_bo 10 0 a0), none] [] m = y_rI (y_mI m (y_mc m) 2) m := (y_R_eq (md := z_md_140) rfl rfl).trans rfl
set_option maxRecDepth 4000 in
theorem y_E_140_72 (d : Nat) (a0 : Nat) (m : y_m) : y_R sp ph d 140 72 [some (y_bo 10 0 a0), none] [] m = y_rI (y_mI m (y_mc m) 3) m := (y_R_eq (md := z_md_140) rfl rfl).trans rfl
set_option maxRecDepth 4000 in
theorem y_E_140_80 (d : Nat) (a0 : Nat) (m : y_m) : y_R sp ph d 140 80 [some (y_bo 10 0 a0), none] [] m = y_rI (y_mI m (y_mc m) 5) m := (y_R_eq (md := z_md_140) rfl rfl).trans rfl
set_option maxRecDepth 4000 in
theorem y_E_140_88 (d : Nat) (a0 : Nat) (m : y_m) : y_R sp ph d 140 88 [some (y_bo 10 0 a0), none] [] m = y_rI (y_mI m (y_mc m) 6) m := (y_R_eq (md := z_md_140) rfl rfl).trans rfl
set_option maxRecDepth 4000 in
theorem y_E_140_96 (d : Nat) (a0 : Nat) (m : y_m) : y_R sp ph d 140 96 [some (y_bo 10 0 a0), none] [] m = y_rI (y_mI m (y_mc m) 4) m := (y_R_eq (md := z_md_140) rfl rfl).trans rfl
set_option maxRecDepth 4000 in
theorem y_E_140_104 (d : Nat) (a0 : Nat) (m : y_m) : y_R sp ph d 140 104 [some (y_bo 10 0 a0), none] [] m = y_rI (y_mI m 23 1) m := (y_R_eq (md := z_md_140) rfl rfl).trans rfl
set_option maxRecDepth 4000 in
theorem y_E_140_115 (d : Nat) (m : y_m) : y_R sp ph d 140 115 [none, none] [] m = y_bb2 (ph && true) (some (.inr 0, y_tm m)) := (y_R_eq (md := z_md_140) rfl rfl).trans rfl
set_option maxRecDepth 4000 in
theorem y_C_140 (d : Nat) (a0 : Nat) (x1 : Int) (m : y_m) : y_V sp ph (d + 1) 140 [y_bo 10 0 a0, y_bi x1] m = y_R sp ph d 140 0 [some (y_bo 10 0 a0), some (y_bi x1)] [] m := (y_V_eq (md := z_md_140) rfl rfl rfl).trans rfl
/-! LacedHoles.span (II)I -/
set_option maxRecDepth 4000 in
theorem y_E_141_0 (d : Nat) (a0 : Nat) (x1 : Int) (x2 : Int) (m : y_m) : y_R sp ph d 141 0 [some (y_bo 10 0 a0), some (y_bi x1), some (y_bi x2)] [] m = y_bV (y_V sp ph d 170 [y_bo 10 0 a0, y_bi x1] m) (fun m1 => y_bV (y_V sp ph d 170 [y_bo 10 0 a0, y_bi x2] m1) (fun m2 => if ¬ z_w x1 = z_w x2 then y_R sp ph d 141 25 [some (y_bo 10 0 a0), some (y_bi x1), some (y_bi x2)] [] m2 else y_bb2 (ph && true) (some (.inr 0, y_tm m2))) (fun e m1 => y_px e m1)) (fun e m1 => y_px e m1) := by
  rw [y_R_eq (md := z_md_141) rfl rfl]
  exact (y_bVc fun m1 => (y_sh (L' := [some (y_bo 10 0 a0), some (y_bi x1), some (y_bi x2)]) (S' := []) rfl rfl (y_bVc fun m2 => (y_sh (L' := [some (y_bo 10 0 a0), some (y_bi x1), some (y_bi x2)]) (S' := []) rfl rfl rfl))))
set_option maxRecDepth 4000 in
theorem y_E_141_25 (d : Nat) (a0 : Nat) (x1 : Int) (x2 : Int) (m : y_m) : y_R sp ph d 141 25 [some (y_bo 10 0 a0), some (y_bi x1), some (y_bi x2)] [] m = y_bL (y_V sp ph d 52 [y_bo 4 0 3, y_bo 0 0 (y_mc m), y_bi x1, y_bi x2] m) (fun v1 m1 => y_bI (y_V sp ph d 58 [y_bl v1] m1) (fun v2 m2 => y_rI v2 m2) (fun e m1 => y_px e m1)) (fun e m1 => y_px e m1) := by
  rw [y_R_eq (md := z_md_141) rfl rfl]
  exact (y_bLc fun v1 m1 => (y_sh (L' := [some (y_bo 10 0 a0), some (y_bi x1), some (y_bi x2)]) (S' := [y_bl v1]) rfl rfl (y_bIc fun v2 m2 => (y_sh (L' := [some (y_bo 10 0 a0), some (y_bi x1), some (y_bi x2)]) (S' := [y_bi v2]) rfl rfl rfl))))
set_option maxRecDepth 4000 in
theorem y_C_141 (d : Nat) (a0 : Nat) (x1 : Int) (x2 : Int) (m : y_m) : y_V sp ph (d + 1) 141 [y_bo 10 0 a0, y_bi x1, y_bi x2] m = y_R sp ph d 141 0 [some (y_bo 10 0 a0), some (y_bi x1), some (y_bi x2)] [] m := (y_V_eq (md := z_md_141) rfl rfl rfl).trans rfl
/-! LacedHoles.at (I)I -/
set_option maxRecDepth 4000 in
theorem y_E_142_0 (d : Nat) (a0 : Nat) (x1 : Int) (m : y_m) : y_R sp ph d 142 0 [some (y_bo 10 0 a0), some (y_bi x1)] [] m = if z_w x1 < 0 then y_R sp ph d 142 32 [none, none] [] m else if z_w (y_mI m 23 1) ≤ z_w x1 then y_R sp ph d 142 32 [none, none] [] m else y_bI (y_V sp ph d 65 [y_bo 8 0 23, y_bi x1] m) (fun v1 m1 => y_R sp ph d 142 33 [none, none] [y_bi v1] m1) (fun e m1 => y_px e m1) := by
  rw [y_R_eq (md := z_md_142) rfl rfl]
  exact (y_ic rfl (y_ic rfl (y_bIc fun v1 m1 => (y_sh (L' := [some (y_bo 10 0 a0), some (y_bi x1)]) (S' := [y_bi v1]) rfl rfl rfl))))
set_option maxRecDepth 4000 in
theorem y_E_142_32 (d : Nat) (m : y_m) : y_R sp ph d 142 32 [none, none] [] m = y_R sp ph d 142 33 [none, none] [y_bi (-1)] m := (y_R_eq (md := z_md_142) rfl rfl).trans rfl
set_option maxRecDepth 4000 in
theorem y_E_142_33 (d : Nat) (xs0 : Int) (m : y_m) : y_R sp ph d 142 33 [none, none] [y_bi xs0] m = y_rI xs0 m := (y_R_eq (md := z_md_142) rfl rfl).trans rfl
set_option maxRecDepth 4000 in
theorem y_C_142 (d : Nat) (a0 : Nat) (x1 : Int) (m : y_m) : y_V sp ph (d + 1) 142 [y_bo 10 0 a0, y_bi x1] m = y_R sp ph d 142 0 [some (y_bo 10 0 a0), some (y_bi x1)] [] m := (y_V_eq (md := z_md_142) rfl rfl rfl).trans rfl
/-! LacedHoles.judge ()I -/
set_option maxRecDepth 4000 in
theorem y_E_143_0 (d : Nat) (a0 : Nat) (m : y_m) : y_R sp ph d 143 0 [some (y_bo 10 0 a0)] [] m = y_bV (y_V sp ph d 171 [y_bo 10 0 a0] m) (fun m1 => y_bI (y_V sp ph d 72 [y_bo 8 0 23, y_bo 0 0 (y_mc m1)] m1) (fun v2 m2 => y_rI v2 m2) (fun e m1 => y_px e m1)) (fun e m1 => y_px e m1) := by
  rw [y_R_eq (md := z_md_143) rfl rfl]
  exact (y_bVc fun m1 => (y_sh (L' := [some (y_bo 10 0 a0)]) (S' := []) rfl rfl (y_bIc fun v2 m2 => (y_sh (L' := [some (y_bo 10 0 a0)]) (S' := [y_bi v2]) rfl rfl rfl))))
set_option maxRecDepth 4000 in
theorem y_C_143 (d : Nat) (a0 : Nat) (m : y_m) : y_V sp ph (d + 1) 143 [y_bo 10 0 a0] m = y_R sp ph d 143 0 [some (y_bo 10 0 a0)] [] m := (y_V_eq (md := z_md_143) rfl rfl rfl).trans rfl
/-! LacedHoles.measure (I)I -/
set_option maxRecDepth 4000 in
theorem y_E_144_0_d (d : Nat) (a0 : Nat) (x1 : Int) (m : y_m) (h : z_w x1 < 0 ∨ 4 < z_w x1) : y_R sp ph d 144 0 [some (y_bo 10 0 a0), some (y_bi x1)] [] m = y_bV (y_V sp ph d 171 [y_bo 10 0 a0] m) (fun m1 => y_R sp ph d 144 151 [none, none] [] m1) (fun e m1 => y_px e m1) := by
  rw [y_R_eq (md := z_md_144) rfl rfl]
  exact (y_bVc fun m1 => (y_sh (L' := [some (y_bo 10 0 a0), some (y_bi x1)]) (S' := []) rfl rfl (by
    show (if z_w x1 < _ ∨ _ < z_w x1 then _ else _) = _
    rw [if_pos h]; rfl)))
set_option maxRecDepth 4000 in
theorem y_E_144_0_0 (d : Nat) (a0 : Nat) (x1 : Int) (m : y_m) (h : z_w x1 = 0) : y_R sp ph d 144 0 [some (y_bo 10 0 a0), some (y_bi x1)] [] m = y_bV (y_V sp ph d 171 [y_bo 10 0 a0] m) (fun m1 => y_R sp ph d 144 40 [some (y_bo 10 0 a0), none] [] m1) (fun e m1 => y_px e m1) := by
  rw [y_R_eq (md := z_md_144) rfl rfl]
  exact (y_bVc fun m1 => (y_sh (L' := [some (y_bo 10 0 a0), some (y_bi x1)]) (S' := []) rfl rfl (by
    show (if z_w x1 < _ ∨ _ < z_w x1 then _ else _) = _
    rw [h]; rfl)))
set_option maxRecDepth 4000 in
theorem y_E_144_0_1 (d : Nat) (a0 : Nat) (x1 : Int) (m : y_m) (h : z_w x1 = 1) : y_R sp ph d 144 0 [some (y_bo 10 0 a0), some (y_bi x1)] [] m = y_bV (y_V sp ph d 171 [y_bo 10 0 a0] m) (fun m1 => y_R sp ph d 144 62 [some (y_bo 10 0 a0), none] [] m1) (fun e m1 => y_px e m1) := by
  rw [y_R_eq (md := z_md_144) rfl rfl]
  exact (y_bVc fun m1 => (y_sh (L' := [some (y_bo 10 0 a0), some (y_bi x1)]) (S' := []) rfl rfl (by
    show (if z_w x1 < _ ∨ _ < z_w x1 then _ else _) = _
    rw [h]; rfl)))
set_option maxRecDepth 4000 in
theorem y_E_144_0_2 (d : Nat) (a0 : Nat) (x1 : Int) (m : y_m) (h : z_w x1 = 2) : y_R sp ph d 144 0 [some (y_bo 10 0 a0), some (y_bi x1)] [] m = y_bV (y_V sp ph d 171 [y_bo 10 0 a0] m) (fun m1 => y_R sp ph d 144 84 [some (y_bo 10 0 a0), none] [] m1) (fun e m1 => y_px e m1) := by
  rw [y_R_eq (md := z_md_144) rfl rfl]
  exact (y_bVc fun m1 => (y_sh (L' := [some (y_bo 10 0 a0), some (y_bi x1)]) (S' := []) rfl rfl (by
    show (if z_w x1 < _ ∨ _ < z_w x1 then _ else _) = _
    rw [h]; rfl)))
set_option maxRecDepth 4000 in
theorem y_E_144_0_3 (d : Nat) (a0 : Nat) (x1 : Int) (m : y_m) (h : z_w x1 = 3) : y_R sp ph d 144 0 [some (y_bo 10 0 a0), some (y_bi x1)] [] m = y_bV (y_V sp ph d 171 [y_bo 10 0 a0] m) (fun m1 => y_R sp ph d 144 99 [some (y_bo 10 0 a0), none] [] m1) (fun e m1 => y_px e m1) := by
  rw [y_R_eq (md := z_md_144) rfl rfl]
  exact (y_bVc fun m1 => (y_sh (L' := [some (y_bo 10 0 a0), some (y_bi x1)]) (S' := []) rfl rfl (by
    show (if z_w x1 < _ ∨ _ < z_w x1 then _ else _) = _
    rw [h]; rfl)))
set_option maxRecDepth 4000 in
theorem y_E_144_0_4 (d : Nat) (a0 : Nat) (x1 : Int) (m : y_m) (h : z_w x1 = 4) : y_R sp ph d 144 0 [some (y_bo 10 0 a0), some (y_bi x1)] [] m = y_bV (y_V sp ph d 171 [y_bo 10 0 a0] m) (fun m1 => y_R sp ph d 144 114 [some (y_bo 10 0 a0), none] [] m1) (fun e m1 => y_px e m1) := by
  rw [y_R_eq (md := z_md_144) rfl rfl]
  exact (y_bVc fun m1 => (y_sh (L' := [some (y_bo 10 0 a0), some (y_bi x1)]) (S' := []) rfl rfl (by
    show (if z_w x1 < _ ∨ _ < z_w x1 then _ else _) = _
    rw [h]; rfl)))
set_option maxRecDepth 4000 in
theorem y_E_144_40 (d : Nat) (a0 : Nat) (m : y_m) : y_R sp ph d 144 40 [some (y_bo 10 0 a0), none] [] m = y_bL (y_V sp ph d 54 [y_bo 4 0 3, y_bo 0 0 (y_mc m), y_bo 8 0 23] m) (fun v1 m1 => y_bI (y_V sp ph d 58 [y_bl v1] m1) (fun v2 m2 => y_rI v2 m2) (fun e m1 => y_px e m1)) (fun e m1 => y_px e m1) := by
  rw [y_R_eq (md := z_md_144) rfl rfl]
  exact (y_bLc fun v1 m1 => (y_sh (L' := [some (y_bo 10 0 a0), none]) (S' := [y_bl v1]) rfl rfl (y_bIc fun v2 m2 => (y_sh (L' := [some (y_bo 10 0 a0), none]) (S' := [y_bi v2]) rfl rfl rfl))))
set_option maxRecDepth 4000 in
theorem y_E_144_62 (d : Nat) (a0 : Nat) (m : y_m) : y_R sp ph d 144 62 [some (y_bo 10 0 a0), none] [] m = y_bL (y_V sp ph d 55 [y_bo 4 0 3, y_bo 0 0 (y_mc m), y_bo 8 0 23] m) (fun v1 m1 => y_bI (y_V sp ph d 59 [y_bl v1] m1) (fun v2 m2 => y_rI v2 m2) (fun e m1 => y_px e m1)) (fun e m1 => y_px e m1) := by
  rw [y_R_eq (md := z_md_144) rfl rfl]
  exact (y_bLc fun v1 m1 => (y_sh (L' := [some (y_bo 10 0 a0), none]) (S' := [y_bl v1]) rfl rfl (y_bIc fun v2 m2 => (y_sh (L' := [some (y_bo 10 0 a0), none]) (S' := [y_bi v2]) rfl rfl rfl))))
set_option maxRecDepth 4000 in
theorem y_E_144_84 (d : Nat) (a0 : Nat) (m : y_m) : y_R sp ph d 144 84 [some (y_bo 10 0 a0), none] [] m = y_bI (y_V sp ph d 73 [y_bo 8 0 23, y_bo 0 0 (y_mc m)] m) (fun v1 m1 => y_rI v1 m1) (fun e m1 => y_px e m1) := by
  rw [y_R_eq (md := z_md_144) rfl rfl]
  exact (y_bIc fun v1 m1 => (y_sh (L' := [some (y_bo 10 0 a0), none]) (S' := [y_bi v1]) rfl rfl rfl))
set_option maxRecDepth 4000 in
theorem y_E_144_99 (d : Nat) (a0 : Nat) (m : y_m) : y_R sp ph d 144 99 [some (y_bo 10 0 a0), none] [] m = y_bI (y_V sp ph d 74 [y_bo 8 0 23, y_bo 0 0 (y_mc m)] m) (fun v1 m1 => y_rI v1 m1) (fun e m1 => y_px e m1) := by
  rw [y_R_eq (md := z_md_144) rfl rfl]
  exact (y_bIc fun v1 m1 => (y_sh (L' := [some (y_bo 10 0 a0), none]) (S' := [y_bi v1]) rfl rfl rfl))
set_option maxRecDepth 4000 in
theorem y_E_144_114 (d : Nat) (a0 : Nat) (m : y_m) : y_R sp ph d 144 114 [some (y_bo 10 0 a0), none] [] m = y_bL (y_V sp ph d 54 [y_bo 4 0 3, y_bo 0 0 (y_mc m), y_bo 8 0 23] m) (fun v1 m1 => y_bI (y_V sp ph d 57 [y_bl v1, y_bi (y_mI m1 (y_mc m1) 6)] m1) (fun v2 m2 => if z_w v2 = 0 then y_R sp ph d 144 149 [none, none] [] m2 else y_R sp ph d 144 150 [none, none] [y_bi 1] m2) (fun e m1 => y_px e m1)) (fun e m1 => y_px e m1) := by
  rw [y_R_eq (md := z_md_144) rfl rfl]
  exact (y_bLc fun v1 m1 => (y_sh (L' := [some (y_bo 10 0 a0), none]) (S' := [y_bl v1]) rfl rfl (y_bIc fun v2 m2 => (y_sh (L' := [some (y_bo 10 0 a0), none]) (S' := [y_bi v2]) rfl rfl rfl))))
set_option maxRecDepth 4000 in
theorem y_E_144_149 (d : Nat) (m : y_m) : y_R sp ph d 144 149 [none, none] [] m = y_R sp ph d 144 150 [none, none] [y_bi 0] m := (y_R_eq (md := z_md_144) rfl rfl).trans rfl
set_option maxRecDepth 4000 in
theorem y_E_144_150 (d : Nat) (xs0 : Int) (m : y_m) : y_R sp ph d 144 150 [none, none] [y_bi xs0] m = y_rI xs0 m := (y_R_eq (md := z_md_144) rfl rfl).trans rfl
set_option maxRecDepth 4000 in
theorem y_E_144_151 (d : Nat) (m : y_m) : y_R sp ph d 144 151 [none, none] [] m = y_bb2 (ph && true) (some (.inr 0, y_tm m)) := (y_R_eq (md := z_md_144) rfl rfl).trans rfl
set_option maxRecDepth 4000 in
theorem y_C_144 (d : Nat) (a0 : Nat) (x1 : Int) (m : y_m) : y_V sp ph (d + 1) 144 [y_bo 10 0 a0, y_bi x1] m = y_R sp ph d 144 0 [some (y_bo 10 0 a0), some (y_bi x1)] [] m := (y_V_eq (md := z_md_144) rfl rfl rfl).trans rfl
/-! LacedHoles.number ()J -/
set_option maxRecDepth 4000 in
theorem y_E_145_0 (d : Nat) (a0 : Nat) (m : y_m) : y_R sp ph d 145 0 [some (y_bo 10 0 a0)] [] m = y_bV (y_V sp ph d 171 [y_bo 10 0 a0] m) (fun m1 => y_bI (y_V sp ph d 72 [y_bo 8 0 23, y_bo 0 0 (y_mc m1)] m1) (fun v2 m2 => if z_w v2 = (-1) then y_R sp ph d 145 26 [some (y_bo 10 0 a0)] [] m2 else y_rL (-1) m2) (fun e m1 => y_px e m1)) (fun e m1 => y_px e m1) := by
  rw [y_R_eq (md := z_md_145) rfl rfl]
  exact (y_bVc fun m1 => (y_sh (L' := [some (y_bo 10 0 a0)]) (S' := []) rfl rfl (y_bIc fun v2 m2 => (y_sh (L' := [some (y_bo 10 0 a0)]) (S' := [y_bi v2]) rfl rfl rfl))))
set_option maxRecDepth 4000 in
theorem y_E_145_26 (d : Nat) (a0 : Nat) (m : y_m) : y_R sp ph d 145 26 [some (y_bo 10 0 a0)] [] m = y_bV (y_V sp ph d 70 [y_bo 8 0 20, y_bo 8 0 23] m) (fun m1 => y_bL (y_V sp ph d 92 [y_bo 1 0 6, y_bo 0 0 (y_mc m1), y_bo 8 0 20] m1) (fun v2 m2 => y_rL v2 m2) (fun e m1 => y_px e m1)) (fun e m1 => y_px e m1) := by
  rw [y_R_eq (md := z_md_145) rfl rfl]
  exact (y_bVc fun m1 => (y_sh (L' := [some (y_bo 10 0 a0)]) (S' := []) rfl rfl (y_bLc fun v2 m2 => (y_sh (L' := [some (y_bo 10 0 a0)]) (S' := [y_bl v2]) rfl rfl rfl))))
set_option maxRecDepth 4000 in
theorem y_C_145 (d : Nat) (a0 : Nat) (m : y_m) : y_V sp ph (d + 1) 145 [y_bo 10 0 a0] m = y_R sp ph d 145 0 [some (y_bo 10 0 a0)] [] m := (y_V_eq (md := z_md_145) rfl rfl rfl).trans rfl
/-! LacedHoles.count (I)J -/
set_option maxRecDepth 4000 in
theorem y_E_146_0 (d : Nat) (a0 : Nat) (x1 : Int) (m : y_m) : y_R sp ph d 146 0 [some (y_bo 10 0 a0), some (y_bi x1)] [] m = y_bV (y_V sp ph d 172 [y_bo 10 0 a0, y_bi x1] m) (fun m1 => y_bL (y_V sp ph d 91 [y_bo 1 0 6, y_bo 0 0 (y_mc m1), y_bi x1] m1) (fun v2 m2 => y_rL v2 m2) (fun e m1 => y_px e m1)) (fun e m1 => y_px e m1) := by
  rw [y_R_eq (md := z_md_146) rfl rfl]
  exact (y_bVc fun m1 => (y_sh (L' := [some (y_bo 10 0 a0), some (y_bi x1)]) (S' := []) rfl rfl (y_bLc fun v2 m2 => (y_sh (L' := [some (y_bo 10 0 a0), some (y_bi x1)]) (S' := [y_bl v2]) rfl rfl rfl))))
set_option maxRecDepth 4000 in
theorem y_C_146 (d : Nat) (a0 : Nat) (x1 : Int) (m : y_m) : y_V sp ph (d + 1) 146 [y_bo 10 0 a0, y_bi x1] m = y_R sp ph d 146 0 [some (y_bo 10 0 a0), some (y_bi x1)] [] m := (y_V_eq (md := z_md_146) rfl rfl rfl).trans rfl
/-! LacedHoles.take (IJ)I -/
set_option maxRecDepth 4000 in
theorem y_E_147_0 (d : Nat) (a0 : Nat) (x1 : Int) (x2 : Int) (m : y_m) : y_R sp ph d 147 0 [some (y_bo 10 0 a0), some (y_bi x1), some (y_bl x2), none] [] m = y_bV (y_V sp ph d 172 [y_bo 10 0 a0, y_bi x1] m) (fun m1 => y_bI (y_V sp ph d 93 [y_bo 1 0 6, y_bo 0 0 (y_mc m1), y_bi x1, y_bl x2, y_bo 8 0 20] m1) (fun v2 m2 => if z_w v2 = 0 then y_R sp ph d 147 32 [none, none, none, none] [] m2 else y_bI (y_V sp ph d 173 [y_bo 10 0 a0] m2) (fun v3 m3 => y_R sp ph d 147 33 [none, none, none, none] [y_bi v3] m3) (fun e m1 => y_px e m1)) (fun e m1 => y_px e m1)) (fun e m1 => y_px e m1) := by
  rw [y_R_eq (md := z_md_147) rfl rfl]
  exact (y_bVc fun m1 => (y_sh (L' := [some (y_bo 10 0 a0), some (y_bi x1), some (y_bl x2), none]) (S' := []) rfl rfl (y_bIc fun v2 m2 => (y_sh (L' := [some (y_bo 10 0 a0), some (y_bi x1), some (y_bl x2), none]) (S' := [y_bi v2]) rfl rfl (y_ic rfl (y_bIc fun v3 m3 => (y_sh (L' := [some (y_bo 10 0 a0), some (y_bi x1), some (y_bl x2), none]) (S' := [y_bi v3]) rfl rfl rfl)))))))
set_option maxRecDepth 4000 in
theorem y_E_147_32 (d : Nat) (m : y_m) : y_R sp ph d 147 32 [none, none, none, none] [] m = y_R sp ph d 147 33 [none, none, none, none] [y_bi (-1)] m := (y_R_eq (md := z_md_147) rfl rfl).trans rfl
set_option maxRecDepth 4000 in
theorem y_E_147_33 (d : Nat) (xs0 : Int) (m : y_m) : y_R sp ph d 147 33 [none, none, none, none] [y_bi xs0] m = y_rI xs0 m := (y_R_eq (md := z_md_147) rfl rfl).trans rfl
set_option maxRecDepth 4000 in
theorem y_C_147 (d : Nat) (a0 : Nat) (x1 : Int) (x2 : Int) (m : y_m) : y_V sp ph (d + 1) 147 [y_bo 10 0 a0, y_bi x1, y_bl x2] m = y_R sp ph d 147 0 [some (y_bo 10 0 a0), some (y_bi x1), some (y_bl x2), none] [] m := (y_V_eq (md := z_md_147) rfl rfl rfl).trans rfl
/-! LacedHoles.best (II)I -/
set_option maxRecDepth 4000 in
theorem y_E_148_0 (d : Nat) (a0 : Nat) (x1 : Int) (x2 : Int) (m : y_m) : y_R sp ph d 148 0 [some (y_bo 10 0 a0), some (y_bi x1), some (y_bi x2)] [] m = y_bV (y_V sp ph d 172 [y_bo 10 0 a0, y_bi x1] m) (fun m1 => if z_w x2 = 0 then y_R sp ph d 148 29 [some (y_bo 10 0 a0), some (y_bi x1), some (y_bi x2)] [] m1 else if z_w x2 = 1 then y_R sp ph d 148 29 [some (y_bo 10 0 a0), some (y_bi x1), some (y_bi x2)] [] m1 else if z_w x2 = 2 then y_R sp ph d 148 29 [some (y_bo 10 0 a0), some (y_bi x1), some (y_bi x2)] [] m1 else y_bb2 (ph && true) (some (.inr 0, y_tm m1))) (fun e m1 => y_px e m1) := by
  rw [y_R_eq (md := z_md_148) rfl rfl]
  exact (y_bVc fun m1 => (y_sh (L' := [some (y_bo 10 0 a0), some (y_bi x1), some (y_bi x2)]) (S' := []) rfl rfl rfl))
set_option maxRecDepth 4000 in
theorem y_E_148_29 (d : Nat) (a0 : Nat) (x1 : Int) (x2 : Int) (m : y_m) : y_R sp ph d 148 29 [some (y_bo 10 0 a0), some (y_bi x1), some (y_bi x2)] [] m = y_bV (y_V sp ph d 108 [y_bo 2 0 8, y_bo 0 0 (y_mc m), y_bo 4 0 3, y_bi x1, y_bi x2] m) (fun m1 => y_bI (y_V sp ph d 120 [y_bo 2 0 8, y_bo 0 0 (y_mc m1), y_bi x1, y_bo 8 0 20] m1) (fun v2 m2 => if ¬ z_w v2 = 0 then y_R sp ph d 148 67 [some (y_bo 10 0 a0), none, some (y_bi x2)] [] m2 else y_rI (-1) m2) (fun e m1 => y_px e m1)) (fun e m1 => y_px e m1) := by
  rw [y_R_eq (md := z_md_148) rfl rfl]
  exact (y_bVc fun m1 => (y_sh (L' := [some (y_bo 10 0 a0), some (y_bi x1), some (y_bi x2)]) (S' := []) rfl rfl (y_bIc fun v2 m2 => (y_sh (L' := [some (y_bo 10 0 a0), some (y_bi x1), some (y_bi x2)]) (S' := [y_bi v2]) rfl rfl rfl))))
set_option maxRecDepth 4000 in
theorem y_E_148_67 (d : Nat) (a0 : Nat) (x2 : Int) (m : y_m) : y_R sp ph d 148 67 [some (y_bo 10 0 a0), none, some (y_bi x2)] [] m = y_bI (y_V sp ph d 173 [y_bo 10 0 a0] m) (fun v1 m1 => if ¬ z_w x2 = 2 then y_R sp ph d 148 101 [some (y_bo 10 0 a0), none, none] [] m1 else y_bL (y_V sp ph d 55 [y_bo 4 0 3, y_bo 0 0 (y_mc m1), y_bo 8 0 23] m1) (fun v2 m2 => y_bI (y_V sp ph d 59 [y_bl v2] m2) (fun v3 m3 => y_R sp ph d 148 122 [none, none, none] [y_bi v3] m3) (fun e m1 => y_px e m1)) (fun e m1 => y_px e m1)) (fun e m1 => y_px e m1) := by
  rw [y_R_eq (md := z_md_148) rfl rfl]
  exact (y_bIc fun v1 m1 => (y_sh (L' := [some (y_bo 10 0 a0), none, some (y_bi x2)]) (S' := [y_bi v1]) rfl rfl (y_ic rfl (y_bLc fun v2 m2 => (y_sh (L' := [some (y_bo 10 0 a0), none, some (y_bi x2)]) (S' := [y_bl v2]) rfl rfl (y_bIc fun v3 m3 => (y_sh (L' := [some (y_bo 10 0 a0), none, some (y_bi x2)]) (S' := [y_bi v3]) rfl rfl rfl)))))))
set_option maxRecDepth 4000 in
theorem y_E_148_101 (d : Nat) (a0 : Nat) (m : y_m) : y_R sp ph d 148 101 [some (y_bo 10 0 a0), none, none] [] m = y_bL (y_V sp ph d 54 [y_bo 4 0 3, y_bo 0 0 (y_mc m), y_bo 8 0 23] m) (fun v1 m1 => y_bI (y_V sp ph d 58 [y_bl v1] m1) (fun v2 m2 => y_R sp ph d 148 122 [none, none, none] [y_bi v2] m2) (fun e m1 => y_px e m1)) (fun e m1 => y_px e m1) := by
  rw [y_R_eq (md := z_md_148) rfl rfl]
  exact (y_bLc fun v1 m1 => (y_sh (L' := [some (y_bo 10 0 a0), none, none]) (S' := [y_bl v1]) rfl rfl (y_bIc fun v2 m2 => (y_sh (L' := [some (y_bo 10 0 a0), none, none]) (S' := [y_bi v2]) rfl rfl rfl))))
set_option maxRecDepth 4000 in
theorem y_E_148_122 (d : Nat) (xs0 : Int) (m : y_m) : y_R sp ph d 148 122 [none, none, none] [y_bi xs0] m = y_rI xs0 m := (y_R_eq (md := z_md_148) rfl rfl).trans rfl
set_option maxRecDepth 4000 in
theorem y_C_148 (d : Nat) (a0 : Nat) (x1 : Int) (x2 : Int) (m : y_m) : y_V sp ph (d + 1) 148 [y_bo 10 0 a0, y_bi x1, y_bi x2] m = y_R sp ph d 148 0 [some (y_bo 10 0 a0), some (y_bi x1), some (y_bi x2)] [] m := (y_V_eq (md := z_md_148) rfl rfl rfl).trans rfl
/-! LacedHoles.against ()I -/
set_option maxRecDepth 4000 in
theorem y_E_149_0 (d : Nat) (a0 : Nat) (m : y_m) : y_R sp ph d 149 0 [some (y_bo 10 0 a0), none, none, none, none] [] m = y_bV (y_V sp ph d 171 [y_bo 10 0 a0] m) (fun m1 => y_bV (y_V sp ph d 109 [y_bo 2 0 8, y_bo 0 0 (y_mc m1), y_bo 4 0 3] m1) (fun m2 => y_bI (y_V sp ph d 67 [y_bo 8 0 23] m2) (fun v3 m3 => y_bL (y_V sp ph d 110 [y_bo 2 0 8, y_bi v3] m3) (fun v4 m4 => if ¬ z_w (z_lcmp v4 9223372036854775807) = 0 then y_R sp ph d 149 47 [some (y_bo 10 0 a0), some (y_bl v4), none, none, none] [] m4 else y_rI (-1) m4) (fun e m1 => y_px e m1)) (fun e m1 => y_px e m1)) (fun e m1 => y_px e m1)) (fun e m1 => y_px e m1) := by
  rw [y_R_eq (md := z_md_149) rfl rfl]
  exact (y_bVc fun m1 => (y_sh (L' := [some (y_bo 10 0 a0), none, none, none, none]) (S' := []) rfl rfl (y_bVc fun m2 => (y_sh (L' := [some (y_bo 10 0 a0), none, none, none, none]) (S' := []) rfl rfl (y_bIc fun v3 m3 => (y_sh (L' := [some (y_bo 10 0 a0), none, none, none, none]) (S' := [y_bi v3, y_bo 2 0 8]) rfl rfl (y_bLc fun v4 m4 => (y_sh (L' := [some (y_bo 10 0 a0), none, none, none, none]) (S' := [y_bl v4]) rfl rfl rfl))))))))
set_option maxRecDepth 4000 in
theorem y_E_149_47 (d : Nat) (a0 : Nat) (x1 : Int) (m : y_m) : y_R sp ph d 149 47 [some (y_bo 10 0 a0), some (y_bl x1), none, none, none] [] m = y_bL (y_V sp ph d 54 [y_bo 4 0 3, y_bo 0 0 (y_mc m), y_bo 8 0 23] m) (fun v1 m1 => y_bI (y_V sp ph d 56 [y_bl v1, y_bl x1] m1) (fun v2 m2 => if z_w v2 = 0 then y_R sp ph d 149 77 [none, some (y_bl x1), none, some (y_bl v1), none] [] m2 else y_rI (-2) m2) (fun e m1 => y_px e m1)) (fun e m1 => y_px e m1) := by
  rw [y_R_eq (md := z_md_149) rfl rfl]
  exact (y_bLc fun v1 m1 => (y_sh (L' := [some (y_bo 10 0 a0), some (y_bl x1), none, none, none]) (S' := [y_bl v1]) rfl rfl (y_bIc fun v2 m2 => (y_sh (L' := [some (y_bo 10 0 a0), some (y_bl x1), none, some (y_bl v1), none]) (S' := [y_bi v2]) rfl rfl rfl))))
set_option maxRecDepth 4000 in
theorem y_E_149_77 (d : Nat) (x1 : Int) (x3 : Int) (m : y_m) : y_R sp ph d 149 77 [none, some (y_bl x1), none, some (y_bl x3), none] [] m = y_bI (y_V sp ph d 56 [y_bl x1, y_bl x3] m) (fun v1 m1 => if z_w v1 = 0 then y_R sp ph d 149 89 [none, none, none, none, none] [] m1 else y_R sp ph d 149 90 [none, none, none, none, none] [y_bi 1] m1) (fun e m1 => y_px e m1) := by
  rw [y_R_eq (md := z_md_149) rfl rfl]
  exact (y_bIc fun v1 m1 => (y_sh (L' := [none, some (y_bl x1), none, some (y_bl x3), none]) (S' := [y_bi v1]) rfl rfl rfl))
set_option maxRecDepth 4000 in
theorem y_E_149_89 (d : Nat) (m : y_m) : y_R sp ph d 149 89 [none, none, none, none, none] [] m = y_R sp ph d 149 90 [none, none, none, none, none] [y_bi 0] m := (y_R_eq (md := z_md_149) rfl rfl).trans rfl
set_option maxRecDepth 4000 in
theorem y_E_149_90 (d : Nat) (xs0 : Int) (m : y_m) : y_R sp ph d 149 90 [none, none, none, none, none] [y_bi xs0] m = y_rI xs0 m := (y_R_eq (md := z_md_149) rfl rfl).trans rfl
set_option maxRecDepth 4000 in
theorem y_C_149 (d : Nat) (a0 : Nat) (m : y_m) : y_V sp ph (d + 1) 149 [y_bo 10 0 a0] m = y_R sp ph d 149 0 [some (y_bo 10 0 a0), none, none, none, none] [] m := (y_V_eq (md := z_md_149) rfl rfl rfl).trans rfl
/-! LacedHoles.leave ()I -/
set_option maxRecDepth 4000 in
theorem y_E_150_0 (d : Nat) (a0 : Nat) (m : y_m) : y_R sp ph d 150 0 [some (y_bo 10 0 a0), none, none, none, none] [] m = y_bV (y_V sp ph d 109 [y_bo 2 0 8, y_bo 0 0 (y_mc m), y_bo 4 0 3] m) (fun m1 => y_bI (y_V sp ph d 41 [y_bo 0 0 (y_mc m1)] m1) (fun v2 m2 => y_R sp ph d 150 27 [some (y_bo 10 0 a0), some (y_bi v2), some (y_bi (-1)), some (y_bi 0), none] [] m2) (fun e m1 => y_px e m1)) (fun e m1 => y_px e m1) := by
  rw [y_R_eq (md := z_md_150) rfl rfl]
  exact (y_bVc fun m1 => (y_sh (L' := [some (y_bo 10 0 a0), none, none, none, none]) (S' := []) rfl rfl (y_bIc fun v2 m2 => (y_sh (L' := [some (y_bo 10 0 a0), none, none, none, none]) (S' := [y_bi v2]) rfl rfl rfl))))
set_option maxRecDepth 4000 in
theorem y_E_150_27 (d : Nat) (a0 : Nat) (x1 : Int) (x2 : Int) (x3 : Int) (m : y_m) : y_R sp ph d 150 27 [some (y_bo 10 0 a0), some (y_bi x1), some (y_bi x2), some (y_bi x3), none] [] m = if z_w x1 < z_w x3 then y_R sp ph d 150 88 [none, none, some (y_bi x2), none, none] [] m else if z_w x2 = (-1) then y_R sp ph d 150 48 [some (y_bo 10 0 a0), some (y_bi x1), some (y_bi x2), some (y_bi x3), none] [] m else y_bI (y_V sp ph d 1 [y_bi x3] m) (fun v1 m1 => y_bI (y_V sp ph d 1 [y_bi x2] m1) (fun v2 m2 => if z_w v2 ≤ z_w v1 then y_R sp ph d 150 52 [some (y_bo 10 0 a0), some (y_bi x1), some (y_bi x2), some (y_bi x3), none] [] m2 else y_R sp ph d 150 48 [some (y_bo 10 0 a0), some (y_bi x1), some (y_bi x2), some (y_bi x3), none] [] m2) (fun e m1 => y_px e m1)) (fun e m1 => y_px e m1) := by
  rw [y_R_eq (md := z_md_150) rfl rfl]
  exact (y_ic rfl (y_ic rfl (y_bIc fun v1 m1 => (y_sh (L' := [some (y_bo 10 0 a0), some (y_bi x1), some (y_bi x2), some (y_bi x3), none]) (S' := [y_bi v1]) rfl rfl (y_bIc fun v2 m2 => (y_sh (L' := [some (y_bo 10 0 a0), some (y_bi x1), some (y_bi x2), some (y_bi x3), none]) (S' := [y_bi v2, y_bi v1]) rfl rfl rfl))))))
set_option maxRecDepth 4000 in
theorem y_E_150_48 (d : Nat) (a0 : Nat) (x1 : Int) (x2 : Int) (x3 : Int) (m : y_m) : y_R sp ph d 150 48 [some (y_bo 10 0 a0), some (y_bi x1), some (y_bi x2), some (y_bi x3), none] [] m = y_R sp ph d 150 53 [some (y_bo 10 0 a0), some (y_bi x1), some (y_bi x2), some (y_bi x3), none] [y_bi 1] m := (y_R_eq (md := z_md_150) rfl rfl).trans rfl
set_option maxRecDepth 4000 in
theorem y_E_150_52 (d : Nat) (a0 : Nat) (x1 : Int) (x2 : Int) (x3 : Int) (m : y_m) : y_R sp ph d 150 52 [some (y_bo 10 0 a0), some (y_bi x1), some (y_bi x2), some (y_bi x3), none] [] m = y_R sp ph d 150 53 [some (y_bo 10 0 a0), some (y_bi x1), some (y_bi x2), some (y_bi x3), none] [y_bi 0] m := (y_R_eq (md := z_md_150) rfl rfl).trans rfl
set_option maxRecDepth 4000 in
theorem y_E_150_53 (d : Nat) (a0 : Nat) (x1 : Int) (x2 : Int) (x3 : Int) (xs0 : Int) (m : y_m) : y_R sp ph d 150 53 [some (y_bo 10 0 a0), some (y_bi x1), some (y_bi x2), some (y_bi x3), none] [y_bi xs0] m = if ¬ z_w (z_iand x3 (z_ixor x1 (-1))) = 0 then y_R sp ph d 150 82 [some (y_bo 10 0 a0), some (y_bi x1), some (y_bi x2), some (y_bi x3), none] [] m else if z_w xs0 = 0 then y_R sp ph d 150 82 [some (y_bo 10 0 a0), some (y_bi x1), some (y_bi x2), some (y_bi x3), none] [] m else y_bI (y_V sp ph d 174 [y_bo 10 0 a0, y_bi (z_iand x1 (z_ixor x3 (-1)))] m) (fun v1 m1 => if z_w v1 = 0 then y_R sp ph d 150 82 [some (y_bo 10 0 a0), some (y_bi x1), some (y_bi x2), some (y_bi x3), none] [] m1 else y_R sp ph d 150 82 [some (y_bo 10 0 a0), some (y_bi x1), some (y_bi x3), some (y_bi x3), none] [] m1) (fun e m1 => y_px e m1) := by
  rw [y_R_eq (md := z_md_150) rfl rfl]
  exact (y_ic rfl (y_ic rfl (y_bIc fun v1 m1 => (y_sh (L' := [some (y_bo 10 0 a0), some (y_bi x1), some (y_bi x2), some (y_bi x3), some (y_bi xs0)]) (S' := [y_bi v1]) rfl rfl rfl))))
set_option maxRecDepth 4000 in
theorem y_E_150_82 (d : Nat) (a0 : Nat) (x1 : Int) (x2 : Int) (x3 : Int) (m : y_m) : y_R sp ph d 150 82 [some (y_bo 10 0 a0), some (y_bi x1), some (y_bi x2), some (y_bi x3), none] [] m = y_R sp ph d 150 27 [some (y_bo 10 0 a0), some (y_bi x1), some (y_bi x2), some (y_bi (x3 + 1)), none] [] m := (y_R_eq (md := z_md_150) rfl rfl).trans rfl
set_option maxRecDepth 4000 in
theorem y_E_150_88 (d : Nat) (x2 : Int) (m : y_m) : y_R sp ph d 150 88 [none, none, some (y_bi x2), none, none] [] m = y_rI x2 m := (y_R_eq (md := z_md_150) rfl rfl).trans rfl
set_option maxRecDepth 4000 in
theorem y_C_150 (d : Nat) (a0 : Nat) (m : y_m) : y_V sp ph (d + 1) 150 [y_bo 10 0 a0] m = y_R sp ph d 150 0 [some (y_bo 10 0 a0), none, none, none, none] [] m := (y_V_eq (md := z_md_150) rfl rfl rfl).trans rfl
/-! LacedHoles.tooShort ()I -/
set_option maxRecDepth 4000 in
theorem y_E_151_0 (d : Nat) (a0 : Nat) (m : y_m) : y_R sp ph d 151 0 [some (y_bo 10 0 a0), none, none] [] m = y_bV (y_V sp ph d 109 [y_bo 2 0 8, y_bo 0 0 (y_mc m), y_bo 4 0 3] m) (fun m1 => y_bI (y_V sp ph d 41 [y_bo 0 0 (y_mc m1)] m1) (fun v2 m2 => y_bL (y_V sp ph d 110 [y_bo 2 0 8, y_bi v2] m2) (fun v3 m3 => if ¬ z_w (z_lcmp v3 9223372036854775807) = 0 then y_R sp ph d 151 40 [some (y_bo 10 0 a0), some (y_bl v3), none] [] m3 else y_rI (-1) m3) (fun e m1 => y_px e m1)) (fun e m1 => y_px e m1)) (fun e m1 => y_px e m1) := by
  rw [y_R_eq (md := z_md_151) rfl rfl]
  exact (y_bVc fun m1 => (y_sh (L' := [some (y_bo 10 0 a0), none, none]) (S' := []) rfl rfl (y_bIc fun v2 m2 => (y_sh (L' := [some (y_bo 10 0 a0), none, none]) (S' := [y_bi v2, y_bo 2 0 8]) rfl rfl (y_bLc fun v3 m3 => (y_sh (L' := [some (y_bo 10 0 a0), none, none]) (S' := [y_bl v3]) rfl rfl rfl))))))
set_option maxRecDepth 4000 in
theorem y_E_151_40 (d : Nat) (a0 : Nat) (x1 : Int) (m : y_m) : y_R sp ph d 151 40 [some (y_bo 10 0 a0), some (y_bl x1), none] [] m = y_bI (y_V sp ph d 58 [y_bl x1] m) (fun v1 m1 => y_bI (y_V sp ph d 4 [y_bi 0, y_bi (v1 - (1000 * (y_mI m1 (y_mc m1) 6)))] m1) (fun v2 m2 => y_rI v2 m2) (fun e m1 => y_px e m1)) (fun e m1 => y_px e m1) := by
  rw [y_R_eq (md := z_md_151) rfl rfl]
  exact (y_bIc fun v1 m1 => (y_sh (L' := [some (y_bo 10 0 a0), some (y_bl x1), none]) (S' := [y_bi v1, y_bi 0]) rfl rfl (y_bIc fun v2 m2 => (y_sh (L' := [some (y_bo 10 0 a0), some (y_bl x1), none]) (S' := [y_bi v2]) rfl rfl rfl))))
set_option maxRecDepth 4000 in
theorem y_C_151 (d : Nat) (a0 : Nat) (m : y_m) : y_V sp ph (d + 1) 151 [y_bo 10 0 a0] m = y_R sp ph d 151 0 [some (y_bo 10 0 a0), none, none] [] m := (y_V_eq (md := z_md_151) rfl rfl rfl).trans rfl
/-! LacedHoles.alike ()I -/
set_option maxRecDepth 4000 in
theorem y_E_152_0 (d : Nat) (a0 : Nat) (m : y_m) : y_R sp ph d 152 0 [some (y_bo 10 0 a0)] [] m = y_bI (y_V sp ph d 42 [y_bo 0 0 (y_mc m)] m) (fun v1 m1 => if z_w v1 = 0 then y_R sp ph d 152 22 [none] [] m1 else y_bI (y_V sp ph d 38 [y_bo 0 0 (y_mc m1)] m1) (fun v2 m2 => if z_w v2 ≤ 8 then y_R sp ph d 152 24 [some (y_bo 10 0 a0)] [] m2 else y_R sp ph d 152 22 [none] [] m2) (fun e m1 => y_px e m1)) (fun e m1 => y_px e m1) := by
  rw [y_R_eq (md := z_md_152) rfl rfl]
  exact (y_bIc fun v1 m1 => (y_sh (L' := [some (y_bo 10 0 a0)]) (S' := [y_bi v1]) rfl rfl (y_ic rfl (y_bIc fun v2 m2 => (y_sh (L' := [some (y_bo 10 0 a0)]) (S' := [y_bi v2]) rfl rfl rfl)))))
set_option maxRecDepth 4000 in
theorem y_E_152_22 (d : Nat) (m : y_m) : y_R sp ph d 152 22 [none] [] m = y_rI (-1) m := (y_R_eq (md := z_md_152) rfl rfl).trans rfl
set_option maxRecDepth 4000 in
theorem y_E_152_24 (d : Nat) (a0 : Nat) (m : y_m) : y_R sp ph d 152 24 [some (y_bo 10 0 a0)] [] m = y_bI (y_V sp ph d 38 [y_bo 0 0 (y_mc m)] m) (fun v1 m1 => if 3 ≤ z_w v1 then y_R sp ph d 152 37 [some (y_bo 10 0 a0)] [] m1 else y_rI 0 m1) (fun e m1 => y_px e m1) := by
  rw [y_R_eq (md := z_md_152) rfl rfl]
  exact (y_bIc fun v1 m1 => (y_sh (L' := [some (y_bo 10 0 a0)]) (S' := [y_bi v1]) rfl rfl rfl))
set_option maxRecDepth 4000 in
theorem y_E_152_37 (d : Nat) (a0 : Nat) (m : y_m) : y_R sp ph d 152 37 [some (y_bo 10 0 a0)] [] m = y_bI (y_V sp ph d 123 [y_bo 7 0 13, y_bo 0 0 (y_mc m)] m) (fun v1 m1 => y_rI v1 m1) (fun e m1 => y_px e m1) := by
  rw [y_R_eq (md := z_md_152) rfl rfl]
  exact (y_bIc fun v1 m1 => (y_sh (L' := [some (y_bo 10 0 a0)]) (S' := [y_bi v1]) rfl rfl rfl))
set_option maxRecDepth 4000 in
theorem y_C_152 (d : Nat) (a0 : Nat) (m : y_m) : y_V sp ph (d + 1) 152 [y_bo 10 0 a0] m = y_R sp ph d 152 0 [some (y_bo 10 0 a0)] [] m := (y_V_eq (md := z_md_152) rfl rfl rfl).trans rfl
/-! LacedHoles.itself ()I -/
set_option maxRecDepth 4000 in
theorem y_E_153_0 (d : Nat) (a0 : Nat) (m : y_m) : y_R sp ph d 153 0 [some (y_bo 10 0 a0)] [] m = y_bV (y_V sp ph d 171 [y_bo 10 0 a0] m) (fun m1 => y_bI (y_V sp ph d 42 [y_bo 0 0 (y_mc m1)] m1) (fun v2 m2 => if z_w v2 = 0 then y_R sp ph d 153 31 [none] [] m2 else y_bI (y_V sp ph d 76 [y_bo 8 0 23, y_bo 0 0 (y_mc m2)] m2) (fun v3 m3 => y_R sp ph d 153 32 [none] [y_bi v3] m3) (fun e m1 => y_px e m1)) (fun e m1 => y_px e m1)) (fun e m1 => y_px e m1) := by
  rw [y_R_eq (md := z_md_153) rfl rfl]
  exact (y_bVc fun m1 => (y_sh (L' := [some (y_bo 10 0 a0)]) (S' := []) rfl rfl (y_bIc fun v2 m2 => (y_sh (L' := [some (y_bo 10 0 a0)]) (S' := [y_bi v2]) rfl rfl (y_ic rfl (y_bIc fun v3 m3 => (y_sh (L' := [some (y_bo 10 0 a0)]) (S' := [y_bi v3]) rfl rfl rfl)))))))
set_option maxRecDepth 4000 in
theorem y_E_153_31 (d : Nat) (m : y_m) : y_R sp ph d 153 31 [none] [] m = y_R sp ph d 153 32 [none] [y_bi (-1)] m := (y_R_eq (md := z_md_153) rfl rfl).trans rfl
set_option maxRecDepth 4000 in
theorem y_E_153_32 (d : Nat) (xs0 : Int) (m : y_m) : y_R sp ph d 153 32 [none] [y_bi xs0] m = y_rI xs0 m := (y_R_eq (md := z_md_153) rfl rfl).trans rfl
set_option maxRecDepth 4000 in
theorem y_C_153 (d : Nat) (a0 : Nat) (m : y_m) : y_V sp ph (d + 1) 153 [y_bo 10 0 a0] m = y_R sp ph d 153 0 [some (y_bo 10 0 a0)] [] m := (y_V_eq (md := z_md_153) rfl rfl rfl).trans rfl
/-! LacedHoles.two (I)I -/
set_option maxRecDepth 4000 in
theorem y_E_154_0 (d : Nat) (a0 : Nat) (x1 : Int) (m : y_m) : y_R sp ph d 154 0 [some (y_bo 10 0 a0), some (y_bi x1), none, none] [] m = y_bI (y_V sp ph d 41 [y_bo 0 0 (y_mc m)] m) (fun v1 m1 => if z_w (z_iand x1 (z_ixor v1 (-1))) = 0 then y_R sp ph d 154 25 [some (y_bo 10 0 a0), some (y_bi x1), none, none] [] m1 else y_bb2 (ph && true) (some (.inr 0, y_tm m1))) (fun e m1 => y_px e m1) := by
  rw [y_R_eq (md := z_md_154) rfl rfl]
  exact (y_bIc fun v1 m1 => (y_sh (L' := [some (y_bo 10 0 a0), some (y_bi x1), none, none]) (S' := [y_bi v1, y_bi x1]) rfl rfl rfl))
set_option maxRecDepth 4000 in
theorem y_E_154_25 (d : Nat) (a0 : Nat) (x1 : Int) (m : y_m) : y_R sp ph d 154 25 [some (y_bo 10 0 a0), some (y_bi x1), none, none] [] m = y_bV (y_V sp ph d 109 [y_bo 2 0 8, y_bo 0 0 (y_mc m), y_bo 4 0 3] m) (fun m1 => y_bL (y_V sp ph d 175 [y_bo 10 0 a0, y_bi x1] m1) (fun v2 m2 => if ¬ z_w (z_lcmp v2 9223372036854775807) = 0 then y_R sp ph d 154 58 [none, none, some (y_bl v2), none] [] m2 else y_R sp ph d 154 62 [none, none, none, none] [y_bi (-1)] m2) (fun e m1 => y_px e m1)) (fun e m1 => y_px e m1) := by
  rw [y_R_eq (md := z_md_154) rfl rfl]
  exact (y_bVc fun m1 => (y_sh (L' := [some (y_bo 10 0 a0), some (y_bi x1), none, none]) (S' := []) rfl rfl (y_bLc fun v2 m2 => (y_sh (L' := [some (y_bo 10 0 a0), some (y_bi x1), none, none]) (S' := [y_bl v2]) rfl rfl rfl))))
set_option maxRecDepth 4000 in
theorem y_E_154_58 (d : Nat) (x2 : Int) (m : y_m) : y_R sp ph d 154 58 [none, none, some (y_bl x2), none] [] m = y_bI (y_V sp ph d 58 [y_bl x2] m) (fun v1 m1 => y_R sp ph d 154 62 [none, none, none, none] [y_bi v1] m1) (fun e m1 => y_px e m1) := by
  rw [y_R_eq (md := z_md_154) rfl rfl]
  exact (y_bIc fun v1 m1 => (y_sh (L' := [none, none, some (y_bl x2), none]) (S' := [y_bi v1]) rfl rfl rfl))
set_option maxRecDepth 4000 in
theorem y_E_154_62 (d : Nat) (xs0 : Int) (m : y_m) : y_R sp ph d 154 62 [none, none, none, none] [y_bi xs0] m = y_rI xs0 m := (y_R_eq (md := z_md_154) rfl rfl).trans rfl
set_option maxRecDepth 4000 in
theorem y_C_154 (d : Nat) (a0 : Nat) (x1 : Int) (m : y_m) : y_V sp ph (d + 1) 154 [y_bo 10 0 a0, y_bi x1] m = y_R sp ph d 154 0 [some (y_bo 10 0 a0), some (y_bi x1), none, none] [] m := (y_V_eq (md := z_md_154) rfl rfl rfl).trans rfl
/-! LacedHoles.colours ()I -/
set_option maxRecDepth 4000 in
theorem y_E_155_0 (d : Nat) (a0 : Nat) (m : y_m) : y_R sp ph d 155 0 [some (y_bo 10 0 a0), none, none, none, none, none, none, none, none] [] m = y_bV (y_V sp ph d 109 [y_bo 2 0 8, y_bo 0 0 (y_mc m), y_bo 4 0 3] m) (fun m1 => y_bI (y_V sp ph d 41 [y_bo 0 0 (y_mc m1)] m1) (fun v2 m2 => y_bI (y_V sp ph d 1 [y_bi v2] m2) (fun v3 m3 => y_R sp ph d 155 40 [some (y_bo 10 0 a0), some (y_bi v2), some (y_bi (z_idiv v3 2)), some (y_bi (-1)), some (y_bl 9223372036854775807), none, some (y_bi 0), none, none] [] m3) (fun e m1 => y_px e m1)) (fun e m1 => y_px e m1)) (fun e m1 => y_px e m1) := by
  rw [y_R_eq (md := z_md_155) rfl rfl]
  exact (y_bVc fun m1 => (y_sh (L' := [some (y_bo 10 0 a0), none, none, none, none, none, none, none, none]) (S' := []) rfl rfl (y_bIc fun v2 m2 => (y_sh (L' := [some (y_bo 10 0 a0), none, none, none, none, none, none, none, none]) (S' := [y_bi v2]) rfl rfl (y_bIc fun v3 m3 => (y_sh (L' := [some (y_bo 10 0 a0), some (y_bi v2), none, none, none, none, none, none, none]) (S' := [y_bi v3]) rfl rfl rfl))))))
set_option maxRecDepth 4000 in
theorem y_E_155_40 (d : Nat) (a0 : Nat) (x1 : Int) (x2 : Int) (x3 : Int) (x4 : Int) (x6 : Int) (m : y_m) : y_R sp ph d 155 40 [some (y_bo 10 0 a0), some (y_bi x1), some (y_bi x2), some (y_bi x3), some (y_bl x4), none, some (y_bi x6), none, none] [] m = if z_w x1 < z_w x6 then y_R sp ph d 155 109 [none, none, none, some (y_bi x3), none, none, none, none, none] [] m else if ¬ z_w (z_iand x6 (z_ixor x1 (-1))) = 0 then y_R sp ph d 155 103 [some (y_bo 10 0 a0), some (y_bi x1), some (y_bi x2), some (y_bi x3), some (y_bl x4), none, some (y_bi x6), none, none] [] m else y_bI (y_V sp ph d 1 [y_bi x6] m) (fun v1 m1 => if ¬ z_w v1 = z_w x2 then y_R sp ph d 155 103 [some (y_bo 10 0 a0), some (y_bi x1), some (y_bi x2), some (y_bi x3), some (y_bl x4), none, some (y_bi x6), none, none] [] m1 else y_bL (y_V sp ph d 175 [y_bo 10 0 a0, y_bi x6] m1) (fun v2 m2 => if z_w (z_lcmp v2 9223372036854775807) = 0 then y_R sp ph d 155 103 [some (y_bo 10 0 a0), some (y_bi x1), some (y_bi x2), some (y_bi x3), some (y_bl x4), none, some (y_bi x6), none, none] [] m2 else if z_w x3 = (-1) then y_R sp ph d 155 96 [some (y_bo 10 0 a0), some (y_bi x1), some (y_bi x2), none, none, none, some (y_bi x6), some (y_bl v2), none] [] m2 else y_bI (y_V sp ph d 56 [y_bl v2, y_bl x4] m2) (fun v3 m3 => if z_w v3 = 0 then y_R sp ph d 155 103 [some (y_bo 10 0 a0), some (y_bi x1), some (y_bi x2), some (y_bi x3), some (y_bl x4), none, some (y_bi x6), none, none] [] m3 else y_R sp ph d 155 96 [some (y_bo 10 0 a0), some (y_bi x1), some (y_bi x2), none, none, none, some (y_bi x6), some (y_bl v2), none] [] m3) (fun e m1 => y_px e m1)) (fun e m1 => y_px e m1)) (fun e m1 => y_px e m1) := by
  rw [y_R_eq (md := z_md_155) rfl rfl]
  exact (y_ic rfl (y_ic rfl (y_bIc fun v1 m1 => (y_sh (L' := [some (y_bo 10 0 a0), some (y_bi x1), some (y_bi x2), some (y_bi x3), some (y_bl x4), none, some (y_bi x6), none, none]) (S' := [y_bi v1]) rfl rfl (y_ic rfl (y_bLc fun v2 m2 => (y_sh (L' := [some (y_bo 10 0 a0), some (y_bi x1), some (y_bi x2), some (y_bi x3), some (y_bl x4), none, some (y_bi x6), none, none]) (S' := [y_bl v2]) rfl rfl (y_ic rfl (y_ic rfl (y_bIc fun v3 m3 => (y_sh (L' := [some (y_bo 10 0 a0), some (y_bi x1), some (y_bi x2), some (y_bi x3), some (y_bl x4), none, some (y_bi x6), some (y_bl v2), none]) (S' := [y_bi v3]) rfl rfl rfl)))))))))))
set_option maxRecDepth 4000 in
theorem y_E_155_96 (d : Nat) (a0 : Nat) (x1 : Int) (x2 : Int) (x6 : Int) (x7 : Int) (m : y_m) : y_R sp ph d 155 96 [some (y_bo 10 0 a0), some (y_bi x1), some (y_bi x2), none, none, none, some (y_bi x6), some (y_bl x7), none] [] m = y_R sp ph d 155 103 [some (y_bo 10 0 a0), some (y_bi x1), some (y_bi x2), some (y_bi x6), some (y_bl x7), none, some (y_bi x6), none, none] [] m := (y_R_eq (md := z_md_155) rfl rfl).trans rfl
set_option maxRecDepth 4000 in
theorem y_E_155_103 (d : Nat) (a0 : Nat) (x1 : Int) (x2 : Int) (x3 : Int) (x4 : Int) (x6 : Int) (m : y_m) : y_R sp ph d 155 103 [some (y_bo 10 0 a0), some (y_bi x1), some (y_bi x2), some (y_bi x3), some (y_bl x4), none, some (y_bi x6), none, none] [] m = y_R sp ph d 155 40 [some (y_bo 10 0 a0), some (y_bi x1), some (y_bi x2), some (y_bi x3), some (y_bl x4), none, some (y_bi (x6 + 1)), none, none] [] m := (y_R_eq (md := z_md_155) rfl rfl).trans rfl
set_option maxRecDepth 4000 in
theorem y_E_155_109 (d : Nat) (x3 : Int) (m : y_m) : y_R sp ph d 155 109 [none, none, none, some (y_bi x3), none, none, none, none, none] [] m = y_rI x3 m := (y_R_eq (md := z_md_155) rfl rfl).trans rfl
set_option maxRecDepth 4000 in
theorem y_C_155 (d : Nat) (a0 : Nat) (m : y_m) : y_V sp ph (d + 1) 155 [y_bo 10 0 a0] m = y_R sp ph d 155 0 [some (y_bo 10 0 a0), none, none, none, none, none, none, none, none] [] m := (y_V_eq (md := z_md_155) rfl rfl rfl).trans rfl
/-! LacedHoles.see (II)I -/
set_option maxRecDepth 4000 in
theorem y_E_156_0 (d : Nat) (a0 : Nat) (x1 : Int) (x2 : Int) (m : y_m) : y_R sp ph d 156 0 [some (y_bo 10 0 a0), some (y_bi x1), some (y_bi x2)] [] m = y_bV (y_V sp ph d 170 [y_bo 10 0 a0, y_bi x1] m) (fun m1 => y_bV (y_V sp ph d 170 [y_bo 10 0 a0, y_bi x2] m1) (fun m2 => if ¬ z_w x1 = z_w x2 then y_R sp ph d 156 25 [some (y_bo 10 0 a0), some (y_bi x1), some (y_bi x2)] [] m2 else y_bb2 (ph && true) (some (.inr 0, y_tm m2))) (fun e m1 => y_px e m1)) (fun e m1 => y_px e m1) := by
  rw [y_R_eq (md := z_md_156) rfl rfl]
  exact (y_bVc fun m1 => (y_sh (L' := [some (y_bo 10 0 a0), some (y_bi x1), some (y_bi x2)]) (S' := []) rfl rfl (y_bVc fun m2 => (y_sh (L' := [some (y_bo 10 0 a0), some (y_bi x1), some (y_bi x2)]) (S' := []) rfl rfl rfl))))
set_option maxRecDepth 4000 in
theorem y_E_156_25 (d : Nat) (a0 : Nat) (x1 : Int) (x2 : Int) (m : y_m) : y_R sp ph d 156 25 [some (y_bo 10 0 a0), some (y_bi x1), some (y_bi x2)] [] m = y_bI (y_V sp ph d 40 [y_bo 0 0 (y_mc m), y_bi x1] m) (fun v1 m1 => if ¬ z_w v1 = 0 then y_R sp ph d 156 47 [none, none, none] [] m1 else y_bI (y_V sp ph d 40 [y_bo 0 0 (y_mc m1), y_bi x2] m1) (fun v2 m2 => if z_w v2 = 0 then y_R sp ph d 156 49 [some (y_bo 10 0 a0), some (y_bi x1), some (y_bi x2)] [] m2 else y_R sp ph d 156 47 [none, none, none] [] m2) (fun e m1 => y_px e m1)) (fun e m1 => y_px e m1) := by
  rw [y_R_eq (md := z_md_156) rfl rfl]
  exact (y_bIc fun v1 m1 => (y_sh (L' := [some (y_bo 10 0 a0), some (y_bi x1), some (y_bi x2)]) (S' := [y_bi v1]) rfl rfl (y_ic rfl (y_bIc fun v2 m2 => (y_sh (L' := [some (y_bo 10 0 a0), some (y_bi x1), some (y_bi x2)]) (S' := [y_bi v2]) rfl rfl rfl)))))
set_option maxRecDepth 4000 in
theorem y_E_156_47 (d : Nat) (m : y_m) : y_R sp ph d 156 47 [none, none, none] [] m = y_rI (-1) m := (y_R_eq (md := z_md_156) rfl rfl).trans rfl
set_option maxRecDepth 4000 in
theorem y_E_156_49 (d : Nat) (a0 : Nat) (x1 : Int) (x2 : Int) (m : y_m) : y_R sp ph d 156 49 [some (y_bo 10 0 a0), some (y_bi x1), some (y_bi x2)] [] m = y_bI (y_V sp ph d 82 [y_bo 3 0 25, y_bi x1, y_bi x2] m) (fun v1 m1 => if z_w v1 = 0 then y_R sp ph d 156 77 [none, none, none] [] m1 else y_R sp ph d 156 78 [none, none, none] [y_bi (y_mI m1 25 1)] m1) (fun e m1 => y_px e m1) := by
  rw [y_R_eq (md := z_md_156) rfl rfl]
  exact (y_bIc fun v1 m1 => (y_sh (L' := [some (y_bo 10 0 a0), some (y_bi x1), some (y_bi x2)]) (S' := [y_bi v1]) rfl rfl rfl))
set_option maxRecDepth 4000 in
theorem y_E_156_77 (d : Nat) (m : y_m) : y_R sp ph d 156 77 [none, none, none] [] m = y_R sp ph d 156 78 [none, none, none] [y_bi (-1)] m := (y_R_eq (md := z_md_156) rfl rfl).trans rfl
set_option maxRecDepth 4000 in
theorem y_E_156_78 (d : Nat) (xs0 : Int) (m : y_m) : y_R sp ph d 156 78 [none, none, none] [y_bi xs0] m = y_rI xs0 m := (y_R_eq (md := z_md_156) rfl rfl).trans rfl
set_option maxRecDepth 4000 in
theorem y_C_156 (d : Nat) (a0 : Nat) (x1 : Int) (x2 : Int) (m : y_m) : y_V sp ph (d + 1) 156 [y_bo 10 0 a0, y_bi x1, y_bi x2] m = y_R sp ph d 156 0 [some (y_bo 10 0 a0), some (y_bi x1), some (y_bi x2)] [] m := (y_V_eq (md := z_md_156) rfl rfl rfl).trans rfl
/-! LacedHoles.blind ()I -/
set_option maxRecDepth 4000 in
theorem y_E_157_0 (d : Nat) (a0 : Nat) (m : y_m) : y_R sp ph d 157 0 [some (y_bo 10 0 a0), none] [] m = y_bV (y_V sp ph d 79 [y_bo 3 0 25] m) (fun m1 => y_rI (y_mI m 25 1) m1) (fun e m1 => y_px e m1) := by
  rw [y_R_eq (md := z_md_157) rfl rfl]
  exact (y_bVc fun m1 => (y_sh (L' := [some (y_bo 10 0 a0), some (y_bi (y_mI m 25 1))]) (S' := []) rfl rfl rfl))
set_option maxRecDepth 4000 in
theorem y_C_157 (d : Nat) (a0 : Nat) (m : y_m) : y_V sp ph (d + 1) 157 [y_bo 10 0 a0] m = y_R sp ph d 157 0 [some (y_bo 10 0 a0), none] [] m := (y_V_eq (md := z_md_157) rfl rfl rfl).trans rfl
/-! LacedHoles.within ()I -/
set_option maxRecDepth 4000 in
theorem y_E_158_0 (d : Nat) (a0 : Nat) (m : y_m) : y_R sp ph d 158 0 [some (y_bo 10 0 a0)] [] m = y_bI (y_V sp ph d 124 [y_bo 7 0 13, y_bo 0 0 (y_mc m), y_bo 3 0 25] m) (fun v1 m1 => y_rI v1 m1) (fun e m1 => y_px e m1) := by
  rw [y_R_eq (md := z_md_158) rfl rfl]
  exact (y_bIc fun v1 m1 => (y_sh (L' := [some (y_bo 10 0 a0)]) (S' := [y_bi v1]) rfl rfl rfl))
set_option maxRecDepth 4000 in
theorem y_C_158 (d : Nat) (a0 : Nat) (m : y_m) : y_V sp ph (d + 1) 158 [y_bo 10 0 a0] m = y_R sp ph d 158 0 [some (y_bo 10 0 a0)] [] m := (y_V_eq (md := z_md_158) rfl rfl rfl).trans rfl
/-! LacedHoles.guess ()I -/
set_option maxRecDepth 4000 in
theorem y_E_159_0 (d : Nat) (a0 : Nat) (m : y_m) : y_R sp ph d 159 0 [some (y_bo 10 0 a0)] [] m = y_bI (y_V sp ph d 125 [y_bo 7 0 13, y_bo 0 0 (y_mc m), y_bo 3 0 25, y_bo 8 0 20] m) (fun v1 m1 => if ¬ z_w v1 = 0 then y_R sp ph d 159 27 [some (y_bo 10 0 a0)] [] m1 else y_rI (-1) m1) (fun e m1 => y_px e m1) := by
  rw [y_R_eq (md := z_md_159) rfl rfl]
  exact (y_bIc fun v1 m1 => (y_sh (L' := [some (y_bo 10 0 a0)]) (S' := [y_bi v1]) rfl rfl rfl))
set_option maxRecDepth 4000 in
theorem y_E_159_27 (d : Nat) (a0 : Nat) (m : y_m) : y_R sp ph d 159 27 [some (y_bo 10 0 a0)] [] m = y_bI (y_V sp ph d 173 [y_bo 10 0 a0] m) (fun v1 m1 => y_rI v1 m1) (fun e m1 => y_px e m1) := by
  rw [y_R_eq (md := z_md_159) rfl rfl]
  exact (y_bIc fun v1 m1 => (y_sh (L' := [some (y_bo 10 0 a0)]) (S' := [y_bi v1]) rfl rfl rfl))
set_option maxRecDepth 4000 in
theorem y_C_159 (d : Nat) (a0 : Nat) (m : y_m) : y_V sp ph (d + 1) 159 [y_bo 10 0 a0] m = y_R sp ph d 159 0 [some (y_bo 10 0 a0)] [] m := (y_V_eq (md := z_md_159) rfl rfl rfl).trans rfl
/-! LacedHoles.seen ()I -/
set_option maxRecDepth 4000 in
theorem y_E_160_0 (d : Nat) (a0 : Nat) (m : y_m) : y_R sp ph d 160 0 [some (y_bo 10 0 a0)] [] m = y_bV (y_V sp ph d 171 [y_bo 10 0 a0] m) (fun m1 => y_bI (y_V sp ph d 83 [y_bo 3 0 25, y_bo 8 0 23] m1) (fun v2 m2 => y_rI v2 m2) (fun e m1 => y_px e m1)) (fun e m1 => y_px e m1) := by
  rw [y_R_eq (md := z_md_160) rfl rfl]
  exact (y_bVc fun m1 => (y_sh (L' := [some (y_bo 10 0 a0)]) (S' := []) rfl rfl (y_bIc fun v2 m2 => (y_sh (L' := [some (y_bo 10 0 a0)]) (S' := [y_bi v2]) rfl rfl rfl))))
set_option maxRecDepth 4000 in
theorem y_C_160 (d : Nat) (a0 : Nat) (m : y_m) : y_V sp ph (d + 1) 160 [y_bo 10 0 a0] m = y_R sp ph d 160 0 [some (y_bo 10 0 a0)] [] m := (y_V_eq (md := z_md_160) rfl rfl rfl).trans rfl
/-! LacedHoles.knot (II)I -/
set_option maxRecDepth 4000 in
theorem y_E_161_0 (d : Nat) (a0 : Nat) (x1 : Int) (x2 : Int) (m : y_m) : y_R sp ph d 161 0 [some (y_bo 10 0 a0), some (y_bi x1), some (y_bi x2)] [] m = y_bV (y_V sp ph d 171 [y_bo 10 0 a0] m) (fun m1 => if z_w x1 < 0 then y_R sp ph d 161 24 [none, none, none] [] m1 else if 999 < z_w x1 then y_R sp ph d 161 24 [none, none, none] [] m1 else if z_w x2 = 0 then y_R sp ph d 161 35 [some (y_bo 10 0 a0), some (y_bi x1), some (y_bi x2)] [] m1 else if z_w x2 = 1 then y_R sp ph d 161 35 [some (y_bo 10 0 a0), some (y_bi x1), some (y_bi x2)] [] m1 else y_R sp ph d 161 24 [none, none, none] [] m1) (fun e m1 => y_px e m1) := by
  rw [y_R_eq (md := z_md_161) rfl rfl]
  exact (y_bVc fun m1 => (y_sh (L' := [some (y_bo 10 0 a0), some (y_bi x1), some (y_bi x2)]) (S' := []) rfl rfl rfl))
set_option maxRecDepth 4000 in
theorem y_E_161_24 (d : Nat) (m : y_m) : y_R sp ph d 161 24 [none, none, none] [] m = y_bb2 (ph && true) (some (.inr 0, y_tm m)) := (y_R_eq (md := z_md_161) rfl rfl).trans rfl
set_option maxRecDepth 4000 in
theorem y_E_161_35 (d : Nat) (a0 : Nat) (x1 : Int) (x2 : Int) (m : y_m) : y_R sp ph d 161 35 [some (y_bo 10 0 a0), some (y_bi x1), some (y_bi x2)] [] m = if ¬ z_w x2 = 1 then y_R sp ph d 161 60 [none, none, none] [y_bi x1, y_bo 8 0 23, y_bo 0 0 (y_mc m), y_bo 4 0 3] m else y_R sp ph d 161 61 [none, none, none] [y_bi 1, y_bi x1, y_bo 8 0 23, y_bo 0 0 (y_mc m), y_bo 4 0 3] m := (y_R_eq (md := z_md_161) rfl rfl).trans rfl
set_option maxRecDepth 4000 in
theorem y_E_161_60 (d : Nat) (xs0 : Int) (as1 : Nat) (as2 : Nat) (as3 : Nat) (m : y_m) : y_R sp ph d 161 60 [none, none, none] [y_bi xs0, y_bo 8 0 as1, y_bo 0 0 as2, y_bo 4 0 as3] m = y_R sp ph d 161 61 [none, none, none] [y_bi 0, y_bi xs0, y_bo 8 0 as1, y_bo 0 0 as2, y_bo 4 0 as3] m := (y_R_eq (md := z_md_161) rfl rfl).trans rfl
set_option maxRecDepth 4000 in
theorem y_E_161_61 (d : Nat) (xs0 : Int) (xs1 : Int) (as2 : Nat) (as3 : Nat) (as4 : Nat) (m : y_m) : y_R sp ph d 161 61 [none, none, none] [y_bi xs0, y_bi xs1, y_bo 8 0 as2, y_bo 0 0 as3, y_bo 4 0 as4] m = y_bI (y_V sp ph d 60 [y_bo 4 0 as4, y_bo 0 0 as3, y_bo 8 0 as2, y_bi xs1, y_bi xs0] m) (fun v1 m1 => y_rI v1 m1) (fun e m1 => y_px e m1) := by
  rw [y_R_eq (md := z_md_161) rfl rfl]
  exact (y_bIc fun v1 m1 => (y_sh (L' := [none, none, none]) (S' := [y_bi v1]) rfl rfl rfl))
set_option maxRecDepth 4000 in
theorem y_C_161 (d : Nat) (a0 : Nat) (x1 : Int) (x2 : Int) (m : y_m) : y_V sp ph (d + 1) 161 [y_bo 10 0 a0, y_bi x1, y_bi x2] m = y_R sp ph d 161 0 [some (y_bo 10 0 a0), some (y_bi x1), some (y_bi x2)] [] m := (y_V_eq (md := z_md_161) rfl rfl rfl).trans rfl
/-! LacedHoles.wear (I)I -/
set_option maxRecDepth 4000 in
theorem y_E_162_0 (d : Nat) (a0 : Nat) (x1 : Int) (m : y_m) : y_R sp ph d 162 0 [some (y_bo 10 0 a0), some (y_bi x1)] [] m = y_bV (y_V sp ph d 170 [y_bo 10 0 a0, y_bi x1] m) (fun m1 => y_bV (y_V sp ph d 171 [y_bo 10 0 a0] m1) (fun m2 => y_bI (y_V sp ph d 75 [y_bo 8 0 23, y_bo 0 0 (y_mc m2), y_bi x1] m2) (fun v3 m3 => y_rI v3 m3) (fun e m1 => y_px e m1)) (fun e m1 => y_px e m1)) (fun e m1 => y_px e m1) := by
  rw [y_R_eq (md := z_md_162) rfl rfl]
  exact (y_bVc fun m1 => (y_sh (L' := [some (y_bo 10 0 a0), some (y_bi x1)]) (S' := []) rfl rfl (y_bVc fun m2 => (y_sh (L' := [some (y_bo 10 0 a0), some (y_bi x1)]) (S' := []) rfl rfl (y_bIc fun v3 m3 => (y_sh (L' := [some (y_bo 10 0 a0), some (y_bi x1)]) (S' := [y_bi v3]) rfl rfl rfl))))))
set_option maxRecDepth 4000 in
theorem y_C_162 (d : Nat) (a0 : Nat) (x1 : Int) (m : y_m) : y_V sp ph (d + 1) 162 [y_bo 10 0 a0, y_bi x1] m = y_R sp ph d 162 0 [some (y_bo 10 0 a0), some (y_bi x1)] [] m := (y_V_eq (md := z_md_162) rfl rfl rfl).trans rfl
/-! LacedHoles.keep ()I -/
set_option maxRecDepth 4000 in
theorem y_E_163_0 (d : Nat) (a0 : Nat) (m : y_m) : y_R sp ph d 163 0 [some (y_bo 10 0 a0)] [] m = y_bV (y_V sp ph d 171 [y_bo 10 0 a0] m) (fun m1 => y_bI (y_V sp ph d 89 [y_bo 5 0 22, y_bo 0 0 (y_mc m1)] m1) (fun v2 m2 => if z_w v2 = 0 then y_R sp ph d 163 28 [none] [] m2 else y_R sp ph d 163 29 [none] [y_bi (y_mI m2 22 3)] m2) (fun e m1 => y_px e m1)) (fun e m1 => y_px e m1) := by
  rw [y_R_eq (md := z_md_163) rfl rfl]
  exact (y_bVc fun m1 => (y_sh (L' := [some (y_bo 10 0 a0)]) (S' := []) rfl rfl (y_bIc fun v2 m2 => (y_sh (L' := [some (y_bo 10 0 a0)]) (S' := [y_bi v2]) rfl rfl rfl))))
set_option maxRecDepth 4000 in
theorem y_E_163_28 (d : Nat) (m : y_m) : y_R sp ph d 163 28 [none] [] m = y_R sp ph d 163 29 [none] [y_bi (-1)] m := (y_R_eq (md := z_md_163) rfl rfl).trans rfl
set_option maxRecDepth 4000 in
theorem y_E_163_29 (d : Nat) (xs0 : Int) (m : y_m) : y_R sp ph d 163 29 [none] [y_bi xs0] m = y_rI xs0 m := (y_R_eq (md := z_md_163) rfl rfl).trans rfl
set_option maxRecDepth 4000 in
theorem y_C_163 (d : Nat) (a0 : Nat) (m : y_m) : y_V sp ph (d + 1) 163 [y_bo 10 0 a0] m = y_R sp ph d 163 0 [some (y_bo 10 0 a0)] [] m := (y_V_eq (md := z_md_163) rfl rfl rfl).trans rfl
/-! LacedHoles.drop ()I -/
set_option maxRecDepth 4000 in
theorem y_E_164_0 (d : Nat) (a0 : Nat) (m : y_m) : y_R sp ph d 164 0 [some (y_bo 10 0 a0), none] [] m = y_rI (y_mI m 22 3) (y_sI m 22 3 0) := (y_R_eq (md := z_md_164) rfl rfl).trans rfl
set_option maxRecDepth 4000 in
theorem y_C_164 (d : Nat) (a0 : Nat) (m : y_m) : y_V sp ph (d + 1) 164 [y_bo 10 0 a0] m = y_R sp ph d 164 0 [some (y_bo 10 0 a0), none] [] m := (y_V_eq (md := z_md_164) rfl rfl rfl).trans rfl
/-! LacedHoles.weeks (II)I -/
set_option maxRecDepth 4000 in
theorem y_E_165_0 (d : Nat) (a0 : Nat) (x1 : Int) (x2 : Int) (m : y_m) : y_R sp ph d 165 0 [some (y_bo 10 0 a0), some (y_bi x1), some (y_bi x2)] [] m = if z_w x1 < 1 then y_R sp ph d 165 20 [none, none, none] [] m else if 12 < z_w x1 then y_R sp ph d 165 20 [none, none, none] [] m else if z_w x2 = 0 then y_R sp ph d 165 31 [some (y_bo 10 0 a0), some (y_bi x1), some (y_bi x2)] [] m else if z_w x2 = 1 then y_R sp ph d 165 31 [some (y_bo 10 0 a0), some (y_bi x1), some (y_bi x2)] [] m else y_R sp ph d 165 20 [none, none, none] [] m := (y_R_eq (md := z_md_165) rfl rfl).trans rfl
set_option maxRecDepth 4000 in
theorem y_E_165_20 (d : Nat) (m : y_m) : y_R sp ph d 165 20 [none, none, none] [] m = y_bb2 (ph && true) (some (.inr 0, y_tm m)) := (y_R_eq (md := z_md_165) rfl rfl).trans rfl
set_option maxRecDepth 4000 in
theorem y_E_165_31 (d : Nat) (a0 : Nat) (x1 : Int) (x2 : Int) (m : y_m) : y_R sp ph d 165 31 [some (y_bo 10 0 a0), some (y_bi x1), some (y_bi x2)] [] m = if ¬ z_w (y_mI m 22 3) = 0 then y_R sp ph d 165 43 [some (y_bo 10 0 a0), some (y_bi x1), some (y_bi x2)] [] m else y_rI (-1) m := (y_R_eq (md := z_md_165) rfl rfl).trans rfl
set_option maxRecDepth 4000 in
theorem y_E_165_43 (d : Nat) (a0 : Nat) (x1 : Int) (x2 : Int) (m : y_m) : y_R sp ph d 165 43 [some (y_bo 10 0 a0), some (y_bi x1), some (y_bi x2)] [] m = y_bV (y_V sp ph d 131 [y_bo 9 0 18, y_bo 5 0 22, y_bi x1] m) (fun m1 => if ¬ z_w x2 = 0 then y_R sp ph d 165 69 [some (y_bo 10 0 a0), none, none] [] m1 else y_R sp ph d 165 76 [none, none, none] [y_bi (y_mI m1 18 1)] m1) (fun e m1 => y_px e m1) := by
  rw [y_R_eq (md := z_md_165) rfl rfl]
  exact (y_bVc fun m1 => (y_sh (L' := [some (y_bo 10 0 a0), some (y_bi x1), some (y_bi x2)]) (S' := []) rfl rfl rfl))
set_option maxRecDepth 4000 in
theorem y_E_165_69 (d : Nat) (a0 : Nat) (m : y_m) : y_R sp ph d 165 69 [some (y_bo 10 0 a0), none, none] [] m = y_R sp ph d 165 76 [none, none, none] [y_bi (y_mI m 18 2)] m := (y_R_eq (md := z_md_165) rfl rfl).trans rfl
set_option maxRecDepth 4000 in
theorem y_E_165_76 (d : Nat) (xs0 : Int) (m : y_m) : y_R sp ph d 165 76 [none, none, none] [y_bi xs0] m = y_rI xs0 m := (y_R_eq (md := z_md_165) rfl rfl).trans rfl
set_option maxRecDepth 4000 in
theorem y_C_165 (d : Nat) (a0 : Nat) (x1 : Int) (x2 : Int) (m : y_m) : y_V sp ph (d + 1) 165 [y_bo 10 0 a0, y_bi x1, y_bi x2] m = y_R sp ph d 165 0 [some (y_bo 10 0 a0), some (y_bi x1), some (y_bi x2)] [] m := (y_V_eq (md := z_md_165) rfl rfl rfl).trans rfl
/-! LacedHoles.draw (I)I -/
set_option maxRecDepth 4000 in
theorem y_E_166_0 (d : Nat) (a0 : Nat) (x1 : Int) (m : y_m) : y_R sp ph d 166 0 [some (y_bo 10 0 a0), some (y_bi x1), none, none, none, none, none] [] m = y_bI (y_V sp ph d 41 [y_bo 0 0 (y_mc m)] m) (fun v1 m1 => y_bI (y_V sp ph d 1 [y_bi v1] m1) (fun v2 m2 => if 3 ≤ z_w v2 then y_R sp ph d 166 20 [some (y_bo 10 0 a0), some (y_bi x1), some (y_bi v1), none, none, none, none] [] m2 else y_R sp ph d 166 32 [some (y_bo 10 0 a0), some (y_bi x1), some (y_bi v1), none, none, none, none] [y_bl 0] m2) (fun e m1 => y_px e m1)) (fun e m1 => y_px e m1) := by
  rw [y_R_eq (md := z_md_166) rfl rfl]
  exact (y_bIc fun v1 m1 => (y_sh (L' := [some (y_bo 10 0 a0), some (y_bi x1), none, none, none, none, none]) (S' := [y_bi v1]) rfl rfl (y_bIc fun v2 m2 => (y_sh (L' := [some (y_bo 10 0 a0), some (y_bi x1), some (y_bi v1), none, none, none, none]) (S' := [y_bi v2]) rfl rfl rfl))))
set_option maxRecDepth 4000 in
theorem y_E_166_20 (d : Nat) (a0 : Nat) (x1 : Int) (x2 : Int) (m : y_m) : y_R sp ph d 166 20 [some (y_bo 10 0 a0), some (y_bi x1), some (y_bi x2), none, none, none, none] [] m = y_bL (y_V sp ph d 91 [y_bo 1 0 6, y_bo 0 0 (y_mc m), y_bi x2] m) (fun v1 m1 => y_R sp ph d 166 32 [some (y_bo 10 0 a0), some (y_bi x1), some (y_bi x2), none, none, none, none] [y_bl v1] m1) (fun e m1 => y_px e m1) := by
  rw [y_R_eq (md := z_md_166) rfl rfl]
  exact (y_bLc fun v1 m1 => (y_sh (L' := [some (y_bo 10 0 a0), some (y_bi x1), some (y_bi x2), none, none, none, none]) (S' := [y_bl v1]) rfl rfl rfl))
set_option maxRecDepth 4000 in
theorem y_E_166_32 (d : Nat) (a0 : Nat) (x1 : Int) (x2 : Int) (xs0 : Int) (m : y_m) : y_R sp ph d 166 32 [some (y_bo 10 0 a0), some (y_bi x1), some (y_bi x2), none, none, none, none] [y_bl xs0] m = if 0 ≤ z_w (z_lcmp xs0 1) then y_R sp ph d 166 41 [some (y_bo 10 0 a0), some (y_bi x1), some (y_bi x2), some (y_bl xs0), none, none, none] [] m else y_rI (-1) m := (y_R_eq (md := z_md_166) rfl rfl).trans rfl
set_option maxRecDepth 4000 in
theorem y_E_166_41 (d : Nat) (a0 : Nat) (x1 : Int) (x2 : Int) (x3 : Int) (m : y_m) : y_R sp ph d 166 41 [some (y_bo 10 0 a0), some (y_bi x1), some (y_bi x2), some (y_bl x3), none, none, none] [] m = y_g (z_wl x3 ≠ 0) (y_bI (y_V sp ph d 93 [y_bo 1 0 6, y_bo 0 0 (y_mc m), y_bi x2, y_bl (z_lrem (z_w (z_idiv (z_iand x1 2147483647) 2)) x3), y_bo 8 0 20] m) (fun v1 m1 => if z_w v1 = 0 then y_R sp ph d 166 81 [none, none, none, none, none, none, none] [] m1 else y_bI (y_V sp ph d 173 [y_bo 10 0 a0] m1) (fun v2 m2 => y_R sp ph d 166 82 [none, none, none, none, none, none, none] [y_bi v2] m2) (fun e m1 => y_px e m1)) (fun e m1 => y_px e m1)) := by
  rw [y_R_eq (md := z_md_166) rfl rfl]
  exact (y_gc (y_bIc fun v1 m1 => (y_sh (L' := [some (y_bo 10 0 a0), some (y_bi x1), some (y_bi x2), some (y_bl x3), none, some (y_bl (z_lrem (z_w (z_idiv (z_iand x1 2147483647) 2)) x3)), none]) (S' := [y_bi v1]) rfl rfl (y_ic rfl (y_bIc fun v2 m2 => (y_sh (L' := [some (y_bo 10 0 a0), some (y_bi x1), some (y_bi x2), some (y_bl x3), none, some (y_bl (z_lrem (z_w (z_idiv (z_iand x1 2147483647) 2)) x3)), none]) (S' := [y_bi v2]) rfl rfl rfl))))))
set_option maxRecDepth 4000 in
theorem y_E_166_81 (d : Nat) (m : y_m) : y_R sp ph d 166 81 [none, none, none, none, none, none, none] [] m = y_R sp ph d 166 82 [none, none, none, none, none, none, none] [y_bi (-1)] m := (y_R_eq (md := z_md_166) rfl rfl).trans rfl
set_option maxRecDepth 4000 in
theorem y_E_166_82 (d : Nat) (xs0 : Int) (m : y_m) : y_R sp ph d 166 82 [none, none, none, none, none, none, none] [y_bi xs0] m = y_rI xs0 m := (y_R_eq (md := z_md_166) rfl rfl).trans rfl
set_option maxRecDepth 4000 in
theorem y_C_166 (d : Nat) (a0 : Nat) (x1 : Int) (m : y_m) : y_V sp ph (d + 1) 166 [y_bo 10 0 a0, y_bi x1] m = y_R sp ph d 166 0 [some (y_bo 10 0 a0), some (y_bi x1), none, none, none, none, none] [] m := (y_V_eq (md := z_md_166) rfl rfl rfl).trans rfl
/-! LacedHoles.image ()I -/
set_option maxRecDepth 4000 in
theorem y_E_167_0 (d : Nat) (a0 : Nat) (m : y_m) : y_R sp ph d 167 0 [some (y_bo 10 0 a0)] [] m = if z_w (y_mI m a0 11) < 0 then y_R sp ph d 167 31 [none] [] m else if z_w (3 : Int) ≤ z_w (y_mI m a0 11) then y_R sp ph d 167 31 [none] [] m else y_g (0 ≤ y_mI m a0 11 ∧ y_mI m a0 11 < (3 : Int)) (y_R sp ph d 167 33 [some (y_bo 10 0 a0)] [] m) := (y_R_eq (md := z_md_167) rfl rfl).trans rfl
set_option maxRecDepth 4000 in
theorem y_E_167_31 (d : Nat) (m : y_m) : y_R sp ph d 167 31 [none] [] m = y_rI (-1) m := (y_R_eq (md := z_md_167) rfl rfl).trans rfl
set_option maxRecDepth 4000 in
theorem y_E_167_33 (d : Nat) (a0 : Nat) (m : y_m) : y_R sp ph d 167 33 [some (y_bo 10 0 a0)] [] m = y_g (0 ≤ y_mI m a0 11 ∧ y_mI m a0 11 < (3 : Int)) (y_bV (y_V sp ph d 87 [y_bo 5 0 (31 + 6 * (y_mI m a0 11).toNat), y_bo 5 0 22] m) (fun m1 => y_rI (y_mI (y_sI m1 a0 11 ((y_mI m1 a0 11) + 1)) a0 11) (y_sI m1 a0 11 ((y_mI m1 a0 11) + 1))) (fun e m1 => y_px e m1)) := by
  rw [y_R_eq (md := z_md_167) rfl rfl]
  exact (y_gc (y_bVc fun m1 => (y_sh (L' := [some (y_bo 10 0 a0)]) (S' := []) rfl rfl rfl)))
set_option maxRecDepth 4000 in
theorem y_C_167 (d : Nat) (a0 : Nat) (m : y_m) : y_V sp ph (d + 1) 167 [y_bo 10 0 a0] m = y_R sp ph d 167 0 [some (y_bo 10 0 a0)] [] m := (y_V_eq (md := z_md_167) rfl rfl rfl).trans rfl
/-! LacedHoles.restore ()I -/
set_option maxRecDepth 4000 in
theorem y_E_168_0 (d : Nat) (a0 : Nat) (m : y_m) : y_R sp ph d 168 0 [some (y_bo 10 0 a0), none] [] m = if z_w ((y_mI m a0 11) - 1) < 0 then y_R sp ph d 168 29 [none, none] [] m else if z_w (3 : Int) ≤ z_w ((y_mI m a0 11) - 1) then y_R sp ph d 168 29 [none, none] [] m else y_g (0 ≤ (y_mI m a0 11) - 1 ∧ (y_mI m a0 11) - 1 < (3 : Int)) (y_R sp ph d 168 31 [some (y_bo 10 0 a0), some (y_bi ((y_mI m a0 11) - 1))] [] m) := (y_R_eq (md := z_md_168) rfl rfl).trans rfl
set_option maxRecDepth 4000 in
theorem y_E_168_29 (d : Nat) (m : y_m) : y_R sp ph d 168 29 [none, none] [] m = y_rI (-1) m := (y_R_eq (md := z_md_168) rfl rfl).trans rfl
set_option maxRecDepth 4000 in
theorem y_E_168_31 (d : Nat) (a0 : Nat) (x1 : Int) (m : y_m) : y_R sp ph d 168 31 [some (y_bo 10 0 a0), some (y_bi x1)] [] m = y_g (0 ≤ x1 ∧ x1 < (3 : Int)) (y_bV (y_V sp ph d 87 [y_bo 5 0 22, y_bo 5 0 (31 + 6 * x1.toNat)] m) (fun m1 => y_rI (y_mI (y_sI m1 a0 11 x1) a0 11) (y_sI m1 a0 11 x1)) (fun e m1 => y_px e m1)) := by
  rw [y_R_eq (md := z_md_168) rfl rfl]
  exact (y_gc (y_bVc fun m1 => (y_sh (L' := [some (y_bo 10 0 a0), some (y_bi x1)]) (S' := []) rfl rfl rfl)))
set_option maxRecDepth 4000 in
theorem y_C_168 (d : Nat) (a0 : Nat) (m : y_m) : y_V sp ph (d + 1) 168 [y_bo 10 0 a0] m = y_R sp ph d 168 0 [some (y_bo 10 0 a0), none] [] m := (y_V_eq (md := z_md_168) rfl rfl rfl).trans rfl
/-! LacedHoles.sums (I)I -/
set_option maxRecDepth 4000 in
theorem y_E_169_0_d (d : Nat) (a0 : Nat) (x1 : Int) (m : y_m) (h : z_w x1 < 0 ∨ 3 < z_w x1) : y_R sp ph d 169 0 [some (y_bo 10 0 a0), some (y_bi x1)] [] m = y_R sp ph d 169 64 [none, none] [] m := by
  rw [y_R_eq (md := z_md_169) rfl rfl]
  exact (by
    show (if z_w x1 < _ ∨ _ < z_w x1 then _ else _) = _
    rw [if_pos h]; rfl)
set_option maxRecDepth 4000 in
theorem y_E_169_0_0 (d : Nat) (a0 : Nat) (x1 : Int) (m : y_m) (h : z_w x1 = 0) : y_R sp ph d 169 0 [some (y_bo 10 0 a0), some (y_bi x1)] [] m = y_R sp ph d 169 32 [some (y_bo 10 0 a0), none] [] m := by
  rw [y_R_eq (md := z_md_169) rfl rfl]
  exact (by
    show (if z_w x1 < _ ∨ _ < z_w x1 then _ else _) = _
    rw [h]; rfl)
set_option maxRecDepth 4000 in
theorem y_E_169_0_1 (d : Nat) (a0 : Nat) (x1 : Int) (m : y_m) (h : z_w x1 = 1) : y_R sp ph d 169 0 [some (y_bo 10 0 a0), some (y_bi x1)] [] m = y_R sp ph d 169 40 [some (y_bo 10 0 a0), none] [] m := by
  rw [y_R_eq (md := z_md_169) rfl rfl]
  exact (by
    show (if z_w x1 < _ ∨ _ < z_w x1 then _ else _) = _
    rw [h]; rfl)
set_option maxRecDepth 4000 in
theorem y_E_169_0_2 (d : Nat) (a0 : Nat) (x1 : Int) (m : y_m) (h : z_w x1 = 2) : y_R sp ph d 169 0 [some (y_bo 10 0 a0), some (y_bi x1)] [] m = y_R sp ph d 169 51 [some (y_bo 10 0 a0), none] [] m := by
  rw [y_R_eq (md := z_md_169) rfl rfl]
  exact (by
    show (if z_w x1 < _ ∨ _ < z_w x1 then _ else _) = _
    rw [h]; rfl)
set_option maxRecDepth 4000 in
theorem y_E_169_0_3 (d : Nat) (a0 : Nat) (x1 : Int) (m : y_m) (h : z_w x1 = 3) : y_R sp ph d 169 0 [some (y_bo 10 0 a0), some (y_bi x1)] [] m = y_R sp ph d 169 56 [some (y_bo 10 0 a0), none] [] m := by
  rw [y_R_eq (md := z_md_169) rfl rfl]
  exact (by
    show (if z_w x1 < _ ∨ _ < z_w x1 then _ else _) = _
    rw [h]; rfl)
set_option maxRecDepth 4000 in
theorem y_E_169_32 (d : Nat) (a0 : Nat) (m : y_m) : y_R sp ph d 169 32 [some (y_bo 10 0 a0), none] [] m = y_rI (y_mI m 22 3) m := (y_R_eq (md := z_md_169) rfl rfl).trans rfl
set_option maxRecDepth 4000 in
theorem y_E_169_40 (d : Nat) (a0 : Nat) (m : y_m) : y_R sp ph d 169 40 [some (y_bo 10 0 a0), none] [] m = y_rI (y_mI m 25 1) m := (y_R_eq (md := z_md_169) rfl rfl).trans rfl
set_option maxRecDepth 4000 in
theorem y_E_169_51 (d : Nat) (a0 : Nat) (m : y_m) : y_R sp ph d 169 51 [some (y_bo 10 0 a0), none] [] m = y_rI (y_mI m a0 11) m := (y_R_eq (md := z_md_169) rfl rfl).trans rfl
set_option maxRecDepth 4000 in
theorem y_E_169_56 (d : Nat) (a0 : Nat) (m : y_m) : y_R sp ph d 169 56 [some (y_bo 10 0 a0), none] [] m = y_bI (y_V sp ph d 14 [y_bo 6 0 1] m) (fun v1 m1 => y_rI v1 m1) (fun e m1 => y_px e m1) := by
  rw [y_R_eq (md := z_md_169) rfl rfl]
  exact (y_bIc fun v1 m1 => (y_sh (L' := [some (y_bo 10 0 a0), none]) (S' := [y_bi v1]) rfl rfl rfl))
set_option maxRecDepth 4000 in
theorem y_E_169_64 (d : Nat) (m : y_m) : y_R sp ph d 169 64 [none, none] [] m = y_rI (-1) m := (y_R_eq (md := z_md_169) rfl rfl).trans rfl
set_option maxRecDepth 4000 in
theorem y_C_169 (d : Nat) (a0 : Nat) (x1 : Int) (m : y_m) : y_V sp ph (d + 1) 169 [y_bo 10 0 a0, y_bi x1] m = y_R sp ph d 169 0 [some (y_bo 10 0 a0), some (y_bi x1)] [] m := (y_V_eq (md := z_md_169) rfl rfl rfl).trans rfl
/-! LacedHoles.needHole (I)V -/
set_option maxRecDepth 4000 in
theorem y_E_170_0 (d : Nat) (a0 : Nat) (x1 : Int) (m : y_m) : y_R sp ph d 170 0 [some (y_bo 10 0 a0), some (y_bi x1)] [] m = y_bI (y_V sp ph d 39 [y_bo 0 0 (y_mc m), y_bi x1] m) (fun v1 m1 => if ¬ z_w v1 = 0 then y_R sp ph d 170 22 [none, none] [] m1 else y_bb2 (ph && true) (some (.inr 1, y_tm m1))) (fun e m1 => y_px e m1) := by
  rw [y_R_eq (md := z_md_170) rfl rfl]
  exact (y_bIc fun v1 m1 => (y_sh (L' := [some (y_bo 10 0 a0), some (y_bi x1)]) (S' := [y_bi v1]) rfl rfl rfl))
set_option maxRecDepth 4000 in
theorem y_E_170_22 (d : Nat) (m : y_m) : y_R sp ph d 170 22 [none, none] [] m = y_rV m := (y_R_eq (md := z_md_170) rfl rfl).trans rfl
set_option maxRecDepth 4000 in
theorem y_C_170 (d : Nat) (a0 : Nat) (x1 : Int) (m : y_m) : y_V sp ph (d + 1) 170 [y_bo 10 0 a0, y_bi x1] m = y_R sp ph d 170 0 [some (y_bo 10 0 a0), some (y_bi x1)] [] m := (y_V_eq (md := z_md_170) rfl rfl rfl).trans rfl
/-! LacedHoles.needWay ()V -/
set_option maxRecDepth 4000 in
theorem y_E_171_0 (d : Nat) (a0 : Nat) (m : y_m) : y_R sp ph d 171 0 [some (y_bo 10 0 a0)] [] m = if ¬ z_w (y_mI m 23 1) = 0 then y_R sp ph d 171 24 [none] [] m else y_bb2 (ph && true) (some (.inr 2, y_tm m)) := (y_R_eq (md := z_md_171) rfl rfl).trans rfl
set_option maxRecDepth 4000 in
theorem y_E_171_24 (d : Nat) (m : y_m) : y_R sp ph d 171 24 [none] [] m = y_rV m := (y_R_eq (md := z_md_171) rfl rfl).trans rfl
set_option maxRecDepth 4000 in
theorem y_C_171 (d : Nat) (a0 : Nat) (m : y_m) : y_V sp ph (d + 1) 171 [y_bo 10 0 a0] m = y_R sp ph d 171 0 [some (y_bo 10 0 a0)] [] m := (y_V_eq (md := z_md_171) rfl rfl rfl).trans rfl
/-! LacedHoles.needRoundOf (I)V -/
set_option maxRecDepth 4000 in
theorem y_E_172_0 (d : Nat) (a0 : Nat) (x1 : Int) (m : y_m) : y_R sp ph d 172 0 [some (y_bo 10 0 a0), some (y_bi x1)] [] m = y_bI (y_V sp ph d 41 [y_bo 0 0 (y_mc m)] m) (fun v1 m1 => if ¬ z_w (z_iand x1 (z_ixor v1 (-1))) = 0 then y_R sp ph d 172 22 [none, none] [] m1 else y_bI (y_V sp ph d 1 [y_bi x1] m1) (fun v2 m2 => if 3 ≤ z_w v2 then y_R sp ph d 172 33 [none, none] [] m2 else y_R sp ph d 172 22 [none, none] [] m2) (fun e m1 => y_px e m1)) (fun e m1 => y_px e m1) := by
  rw [y_R_eq (md := z_md_172) rfl rfl]
  exact (y_bIc fun v1 m1 => (y_sh (L' := [some (y_bo 10 0 a0), some (y_bi x1)]) (S' := [y_bi v1, y_bi x1]) rfl rfl (y_ic rfl (y_bIc fun v2 m2 => (y_sh (L' := [some (y_bo 10 0 a0), some (y_bi x1)]) (S' := [y_bi v2]) rfl rfl rfl)))))
set_option maxRecDepth 4000 in
theorem y_E_172_22 (d : Nat) (m : y_m) : y_R sp ph d 172 22 [none, none] [] m = y_bb2 (ph && true) (some (.inr 0, y_tm m)) := (y_R_eq (md := z_md_172) rfl rfl).trans rfl
set_option maxRecDepth 4000 in
theorem y_E_172_33 (d : Nat) (m : y_m) : y_R sp ph d 172 33 [none, none] [] m = y_rV m := (y_R_eq (md := z_md_172) rfl rfl).trans rfl
set_option maxRecDepth 4000 in
theorem y_C_172 (d : Nat) (a0 : Nat) (x1 : Int) (m : y_m) : y_V sp ph (d + 1) 172 [y_bo 10 0 a0, y_bi x1] m = y_R sp ph d 172 0 [some (y_bo 10 0 a0), some (y_bi x1)] [] m := (y_V_eq (md := z_md_172) rfl rfl rfl).trans rfl
/-! LacedHoles.adoptDraft ()I -/
set_option maxRecDepth 4000 in
theorem y_E_173_0 (d : Nat) (a0 : Nat) (m : y_m) : y_R sp ph d 173 0 [some (y_bo 10 0 a0)] [] m = y_bV (y_V sp ph d 64 [y_bo 8 0 23, y_bo 8 0 20] m) (fun m1 => y_rI (y_mI m1 23 1) m1) (fun e m1 => y_px e m1) := by
  rw [y_R_eq (md := z_md_173) rfl rfl]
  exact (y_bVc fun m1 => (y_sh (L' := [some (y_bo 10 0 a0)]) (S' := []) rfl rfl rfl))
set_option maxRecDepth 4000 in
theorem y_C_173 (d : Nat) (a0 : Nat) (m : y_m) : y_V sp ph (d + 1) 173 [y_bo 10 0 a0] m = y_R sp ph d 173 0 [some (y_bo 10 0 a0)] [] m := (y_V_eq (md := z_md_173) rfl rfl rfl).trans rfl
/-! LacedHoles.fitsLace (I)Z -/
set_option maxRecDepth 4000 in
theorem y_E_174_0 (d : Nat) (a0 : Nat) (x1 : Int) (m : y_m) : y_R sp ph d 174 0 [some (y_bo 10 0 a0), some (y_bi x1), none, none] [] m = y_bL (y_V sp ph d 110 [y_bo 2 0 8, y_bi x1] m) (fun v1 m1 => if z_w (z_lcmp v1 9223372036854775807) = 0 then y_R sp ph d 174 35 [none, none, none, none] [] m1 else y_bI (y_V sp ph d 57 [y_bl v1, y_bi (y_mI m1 (y_mc m1) 6)] m1) (fun v2 m2 => if z_w v2 = 0 then y_R sp ph d 174 35 [none, none, none, none] [] m2 else y_R sp ph d 174 36 [none, none, none, none] [y_bi 1] m2) (fun e m1 => y_px e m1)) (fun e m1 => y_px e m1) := by
  rw [y_R_eq (md := z_md_174) rfl rfl]
  exact (y_bLc fun v1 m1 => (y_sh (L' := [some (y_bo 10 0 a0), some (y_bi x1), none, none]) (S' := [y_bl v1]) rfl rfl (y_ic rfl (y_bIc fun v2 m2 => (y_sh (L' := [some (y_bo 10 0 a0), some (y_bi x1), some (y_bl v1), none]) (S' := [y_bi v2]) rfl rfl rfl)))))
set_option maxRecDepth 4000 in
theorem y_E_174_35 (d : Nat) (m : y_m) : y_R sp ph d 174 35 [none, none, none, none] [] m = y_R sp ph d 174 36 [none, none, none, none] [y_bi 0] m := (y_R_eq (md := z_md_174) rfl rfl).trans rfl
set_option maxRecDepth 4000 in
theorem y_E_174_36 (d : Nat) (xs0 : Int) (m : y_m) : y_R sp ph d 174 36 [none, none, none, none] [y_bi xs0] m = y_g (xs0 = 0 ∨ xs0 = 1) (y_rI xs0 m) := (y_R_eq (md := z_md_174) rfl rfl).trans rfl
set_option maxRecDepth 4000 in
theorem y_C_174 (d : Nat) (a0 : Nat) (x1 : Int) (m : y_m) : y_V sp ph (d + 1) 174 [y_bo 10 0 a0, y_bi x1] m = y_R sp ph d 174 0 [some (y_bo 10 0 a0), some (y_bi x1), none, none] [] m := (y_V_eq (md := z_md_174) rfl rfl rfl).trans rfl
/-! LacedHoles.lengthOfTwo (I)J -/
set_option maxRecDepth 4000 in
theorem y_E_175_0 (d : Nat) (a0 : Nat) (x1 : Int) (m : y_m) : y_R sp ph d 175 0 [some (y_bo 10 0 a0), some (y_bi x1), none, none, none, none] [] m = y_bL (y_V sp ph d 110 [y_bo 2 0 8, y_bi x1] m) (fun v1 m1 => y_bI (y_V sp ph d 41 [y_bo 0 0 (y_mc m1)] m1) (fun v2 m2 => y_bL (y_V sp ph d 110 [y_bo 2 0 8, y_bi (z_iand v2 (z_ixor x1 (-1)))] m2) (fun v3 m3 => if z_w (z_lcmp v1 9223372036854775807) = 0 then y_R sp ph d 175 46 [none, none, none, none, none, none] [] m3 else if ¬ z_w (z_lcmp v3 9223372036854775807) = 0 then y_R sp ph d 175 52 [none, none, some (y_bl v1), none, some (y_bl v3), none] [] m3 else y_R sp ph d 175 46 [none, none, none, none, none, none] [] m3) (fun e m1 => y_px e m1)) (fun e m1 => y_px e m1)) (fun e m1 => y_px e m1) := by
  rw [y_R_eq (md := z_md_175) rfl rfl]
  exact (y_bLc fun v1 m1 => (y_sh (L' := [some (y_bo 10 0 a0), some (y_bi x1), none, none, none, none]) (S' := [y_bl v1]) rfl rfl (y_bIc fun v2 m2 => (y_sh (L' := [some (y_bo 10 0 a0), some (y_bi x1), some (y_bl v1), none, none, none]) (S' := [y_bi v2, y_bo 2 0 8]) rfl rfl (y_bLc fun v3 m3 => (y_sh (L' := [some (y_bo 10 0 a0), some (y_bi x1), some (y_bl v1), none, none, none]) (S' := [y_bl v3]) rfl rfl rfl))))))
set_option maxRecDepth 4000 in
theorem y_E_175_46 (d : Nat) (m : y_m) : y_R sp ph d 175 46 [none, none, none, none, none, none] [] m = y_R sp ph d 175 56 [none, none, none, none, none, none] [y_bl 9223372036854775807] m := (y_R_eq (md := z_md_175) rfl rfl).trans rfl
set_option maxRecDepth 4000 in
theorem y_E_175_52 (d : Nat) (x2 : Int) (x4 : Int) (m : y_m) : y_R sp ph d 175 52 [none, none, some (y_bl x2), none, some (y_bl x4), none] [] m = y_R sp ph d 175 56 [none, none, none, none, none, none] [y_bl (x2 + x4)] m := (y_R_eq (md := z_md_175) rfl rfl).trans rfl
set_option maxRecDepth 4000 in
theorem y_E_175_56 (d : Nat) (xs0 : Int) (m : y_m) : y_R sp ph d 175 56 [none, none, none, none, none, none] [y_bl xs0] m = y_rL xs0 m := (y_R_eq (md := z_md_175) rfl rfl).trans rfl
set_option maxRecDepth 4000 in
theorem y_C_175 (d : Nat) (a0 : Nat) (x1 : Int) (m : y_m) : y_V sp ph (d + 1) 175 [y_bo 10 0 a0, y_bi x1] m = y_R sp ph d 175 0 [some (y_bo 10 0 a0), some (y_bi x1), none, none, none, none] [] m := (y_V_eq (md := z_md_175) rfl rfl rfl).trans rfl
end YEq135_175
