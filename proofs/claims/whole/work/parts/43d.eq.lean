section YEq298_317
variable {sp : Nat → Nat} {ph : Bool}
/-! LacedHolesLaw.boot (LLacedHoles;I[J)I -/
set_option maxRecDepth 4000 in
theorem y_E_298_0 (d : Nat) (a0 : Nat) (x1 : Int) (a2 : Nat) (n2 : Nat) (m : y_m) : y_R sp ph d 298 0 [some (y_bo 10 0 a0), some (y_bi x1), some (y_bo 101 n2 a2), none] [] m = y_bI (y_V sp ph d 137 [y_bo 10 0 a0, y_bi x1] m) (fun v1 m1 => y_g (0 ≤ (0 : Int) ∧ (0 : Int) < (n2 : Int)) (y_R sp ph d 298 15 [none, none, none, none] [] (y_sJ m1 a2 0 (z_w v1)))) (fun e m1 => y_hx [(0, 12)] (fun t L S m => y_R sp ph d 298 t (y_mkt z_md_298 t L) S m) [some (y_bo 10 0 a0), some (y_bi x1), some (y_bo 101 n2 a2), none] e m1) := by
  rw [y_R_eq (md := z_md_298) rfl rfl]
  exact (y_bIc fun v1 m1 => (y_sh (L' := [some (y_bo 10 0 a0), some (y_bi x1), some (y_bo 101 n2 a2), none]) (S' := [y_bi v1, y_bi 0, y_bo 101 n2 a2]) rfl rfl rfl))
set_option maxRecDepth 4000 in
theorem y_E_298_12 (d : Nat) (as0 : Nat) (m : y_m) : y_R sp ph d 298 12 [none, none, none, none] [y_bo 106 0 as0] m = y_rI 1 m := (y_R_eq (md := z_md_298) rfl rfl).trans rfl
set_option maxRecDepth 4000 in
theorem y_E_298_15 (d : Nat) (m : y_m) : y_R sp ph d 298 15 [none, none, none, none] [] m = y_rI 0 m := (y_R_eq (md := z_md_298) rfl rfl).trans rfl
set_option maxRecDepth 4000 in
theorem y_C_298 (d : Nat) (a0 : Nat) (x1 : Int) (a2 : Nat) (n2 : Nat) (m : y_m) : y_V sp ph (d + 1) 298 [y_bo 10 0 a0, y_bi x1, y_bo 101 n2 a2] m = y_R sp ph d 298 0 [some (y_bo 10 0 a0), some (y_bi x1), some (y_bo 101 n2 a2), none] [] m := (y_V_eq (md := z_md_298) rfl rfl rfl).trans rfl
/-! LacedHolesLaw.way (LLacedHoles;I[J)I -/
set_option maxRecDepth 4000 in
theorem y_E_299_0 (d : Nat) (a0 : Nat) (x1 : Int) (a2 : Nat) (n2 : Nat) (m : y_m) : y_R sp ph d 299 0 [some (y_bo 10 0 a0), some (y_bi x1), some (y_bo 101 n2 a2), none] [] m = y_bI (y_V sp ph d 138 [y_bo 10 0 a0, y_bi x1] m) (fun v1 m1 => y_g (0 ≤ (0 : Int) ∧ (0 : Int) < (n2 : Int)) (y_R sp ph d 299 15 [none, none, none, none] [] (y_sJ m1 a2 0 (z_w v1)))) (fun e m1 => y_hx [(0, 12)] (fun t L S m => y_R sp ph d 299 t (y_mkt z_md_299 t L) S m) [some (y_bo 10 0 a0), some (y_bi x1), some (y_bo 101 n2 a2), none] e m1) := by
  rw [y_R_eq (md := z_md_299) rfl rfl]
  exact (y_bIc fun v1 m1 => (y_sh (L' := [some (y_bo 10 0 a0), some (y_bi x1), some (y_bo 101 n2 a2), none]) (S' := [y_bi v1, y_bi 0, y_bo 101 n2 a2]) rfl rfl rfl))
set_option maxRecDepth 4000 in
theorem y_E_299_12 (d : Nat) (as0 : Nat) (m : y_m) : y_R sp ph d 299 12 [none, none, none, none] [y_bo 106 0 as0] m = y_rI 1 m := (y_R_eq (md := z_md_299) rfl rfl).trans rfl
set_option maxRecDepth 4000 in
theorem y_E_299_15 (d : Nat) (m : y_m) : y_R sp ph d 299 15 [none, none, none, none] [] m = y_rI 0 m := (y_R_eq (md := z_md_299) rfl rfl).trans rfl
set_option maxRecDepth 4000 in
theorem y_C_299 (d : Nat) (a0 : Nat) (x1 : Int) (a2 : Nat) (n2 : Nat) (m : y_m) : y_V sp ph (d + 1) 299 [y_bo 10 0 a0, y_bi x1, y_bo 101 n2 a2] m = y_R sp ph d 299 0 [some (y_bo 10 0 a0), some (y_bi x1), some (y_bo 101 n2 a2), none] [] m := (y_V_eq (md := z_md_299) rfl rfl rfl).trans rfl
/-! LacedHolesLaw.told (LLacedHoles;I[J)I -/
set_option maxRecDepth 4000 in
theorem y_E_300_0 (d : Nat) (a0 : Nat) (x1 : Int) (a2 : Nat) (n2 : Nat) (m : y_m) : y_R sp ph d 300 0 [some (y_bo 10 0 a0), some (y_bi x1), some (y_bo 101 n2 a2), none] [] m = y_bI (y_V sp ph d 140 [y_bo 10 0 a0, y_bi x1] m) (fun v1 m1 => y_g (0 ≤ (0 : Int) ∧ (0 : Int) < (n2 : Int)) (y_R sp ph d 300 15 [none, none, none, none] [] (y_sJ m1 a2 0 (z_w v1)))) (fun e m1 => y_hx [(0, 12)] (fun t L S m => y_R sp ph d 300 t (y_mkt z_md_300 t L) S m) [some (y_bo 10 0 a0), some (y_bi x1), some (y_bo 101 n2 a2), none] e m1) := by
  rw [y_R_eq (md := z_md_300) rfl rfl]
  exact (y_bIc fun v1 m1 => (y_sh (L' := [some (y_bo 10 0 a0), some (y_bi x1), some (y_bo 101 n2 a2), none]) (S' := [y_bi v1, y_bi 0, y_bo 101 n2 a2]) rfl rfl rfl))
set_option maxRecDepth 4000 in
theorem y_E_300_12 (d : Nat) (as0 : Nat) (m : y_m) : y_R sp ph d 300 12 [none, none, none, none] [y_bo 106 0 as0] m = y_rI 1 m := (y_R_eq (md := z_md_300) rfl rfl).trans rfl
set_option maxRecDepth 4000 in
theorem y_E_300_15 (d : Nat) (m : y_m) : y_R sp ph d 300 15 [none, none, none, none] [] m = y_rI 0 m := (y_R_eq (md := z_md_300) rfl rfl).trans rfl
set_option maxRecDepth 4000 in
theorem y_C_300 (d : Nat) (a0 : Nat) (x1 : Int) (a2 : Nat) (n2 : Nat) (m : y_m) : y_V sp ph (d + 1) 300 [y_bo 10 0 a0, y_bi x1, y_bo 101 n2 a2] m = y_R sp ph d 300 0 [some (y_bo 10 0 a0), some (y_bi x1), some (y_bo 101 n2 a2), none] [] m := (y_V_eq (md := z_md_300) rfl rfl rfl).trans rfl
/-! LacedHolesLaw.span (LLacedHoles;II[J)I -/
set_option maxRecDepth 4000 in
theorem y_E_301_0 (d : Nat) (a0 : Nat) (x1 : Int) (x2 : Int) (a3 : Nat) (n3 : Nat) (m : y_m) : y_R sp ph d 301 0 [some (y_bo 10 0 a0), some (y_bi x1), some (y_bi x2), some (y_bo 101 n3 a3), none] [] m = y_bI (y_V sp ph d 141 [y_bo 10 0 a0, y_bi x1, y_bi x2] m) (fun v1 m1 => y_g (0 ≤ (0 : Int) ∧ (0 : Int) < (n3 : Int)) (y_R sp ph d 301 21 [none, none, none, none, none] [] (y_sJ m1 a3 0 (z_w v1)))) (fun e m1 => y_hx [(1, 13), (0, 17)] (fun t L S m => y_R sp ph d 301 t (y_mkt z_md_301 t L) S m) [some (y_bo 10 0 a0), some (y_bi x1), some (y_bi x2), some (y_bo 101 n3 a3), none] e m1) := by
  rw [y_R_eq (md := z_md_301) rfl rfl]
  exact (y_bIc fun v1 m1 => (y_sh (L' := [some (y_bo 10 0 a0), some (y_bi x1), some (y_bi x2), some (y_bo 101 n3 a3), none]) (S' := [y_bi v1, y_bi 0, y_bo 101 n3 a3]) rfl rfl rfl))
set_option maxRecDepth 4000 in
theorem y_E_301_13 (d : Nat) (as0 : Nat) (m : y_m) : y_R sp ph d 301 13 [none, none, none, none, none] [y_bo 106 0 as0] m = y_rI 1 m := (y_R_eq (md := z_md_301) rfl rfl).trans rfl
set_option maxRecDepth 4000 in
theorem y_E_301_17 (d : Nat) (as0 : Nat) (m : y_m) : y_R sp ph d 301 17 [none, none, none, none, none] [y_bo 106 0 as0] m = y_rI 2 m := (y_R_eq (md := z_md_301) rfl rfl).trans rfl
set_option maxRecDepth 4000 in
theorem y_E_301_21 (d : Nat) (m : y_m) : y_R sp ph d 301 21 [none, none, none, none, none] [] m = y_rI 0 m := (y_R_eq (md := z_md_301) rfl rfl).trans rfl
set_option maxRecDepth 4000 in
theorem y_C_301 (d : Nat) (a0 : Nat) (x1 : Int) (x2 : Int) (a3 : Nat) (n3 : Nat) (m : y_m) : y_V sp ph (d + 1) 301 [y_bo 10 0 a0, y_bi x1, y_bi x2, y_bo 101 n3 a3] m = y_R sp ph d 301 0 [some (y_bo 10 0 a0), some (y_bi x1), some (y_bi x2), some (y_bo 101 n3 a3), none] [] m := (y_V_eq (md := z_md_301) rfl rfl rfl).trans rfl
/-! LacedHolesLaw.judge (LLacedHoles;[J)I -/
set_option maxRecDepth 4000 in
theorem y_E_302_0 (d : Nat) (a0 : Nat) (a1 : Nat) (n1 : Nat) (m : y_m) : y_R sp ph d 302 0 [some (y_bo 10 0 a0), some (y_bo 101 n1 a1), none] [] m = y_bI (y_V sp ph d 143 [y_bo 10 0 a0] m) (fun v1 m1 => y_g (0 ≤ (0 : Int) ∧ (0 : Int) < (n1 : Int)) (y_R sp ph d 302 14 [none, none, none] [] (y_sJ m1 a1 0 (z_w v1)))) (fun e m1 => y_hx [(2, 11)] (fun t L S m => y_R sp ph d 302 t (y_mkt z_md_302 t L) S m) [some (y_bo 10 0 a0), some (y_bo 101 n1 a1), none] e m1) := by
  rw [y_R_eq (md := z_md_302) rfl rfl]
  exact (y_bIc fun v1 m1 => (y_sh (L' := [some (y_bo 10 0 a0), some (y_bo 101 n1 a1), none]) (S' := [y_bi v1, y_bi 0, y_bo 101 n1 a1]) rfl rfl rfl))
set_option maxRecDepth 4000 in
theorem y_E_302_11 (d : Nat) (as0 : Nat) (m : y_m) : y_R sp ph d 302 11 [none, none, none] [y_bo 106 0 as0] m = y_rI 1 m := (y_R_eq (md := z_md_302) rfl rfl).trans rfl
set_option maxRecDepth 4000 in
theorem y_E_302_14 (d : Nat) (m : y_m) : y_R sp ph d 302 14 [none, none, none] [] m = y_rI 0 m := (y_R_eq (md := z_md_302) rfl rfl).trans rfl
set_option maxRecDepth 4000 in
theorem y_C_302 (d : Nat) (a0 : Nat) (a1 : Nat) (n1 : Nat) (m : y_m) : y_V sp ph (d + 1) 302 [y_bo 10 0 a0, y_bo 101 n1 a1] m = y_R sp ph d 302 0 [some (y_bo 10 0 a0), some (y_bo 101 n1 a1), none] [] m := (y_V_eq (md := z_md_302) rfl rfl rfl).trans rfl
/-! LacedHolesLaw.measure (LLacedHoles;I[J)I -/
set_option maxRecDepth 4000 in
theorem y_E_303_0 (d : Nat) (a0 : Nat) (x1 : Int) (a2 : Nat) (n2 : Nat) (m : y_m) : y_R sp ph d 303 0 [some (y_bo 10 0 a0), some (y_bi x1), some (y_bo 101 n2 a2), none] [] m = y_bI (y_V sp ph d 144 [y_bo 10 0 a0, y_bi x1] m) (fun v1 m1 => y_g (0 ≤ (0 : Int) ∧ (0 : Int) < (n2 : Int)) (y_R sp ph d 303 18 [none, none, none, none] [] (y_sJ m1 a2 0 (z_w v1)))) (fun e m1 => y_hx [(2, 12), (0, 15)] (fun t L S m => y_R sp ph d 303 t (y_mkt z_md_303 t L) S m) [some (y_bo 10 0 a0), some (y_bi x1), some (y_bo 101 n2 a2), none] e m1) := by
  rw [y_R_eq (md := z_md_303) rfl rfl]
  exact (y_bIc fun v1 m1 => (y_sh (L' := [some (y_bo 10 0 a0), some (y_bi x1), some (y_bo 101 n2 a2), none]) (S' := [y_bi v1, y_bi 0, y_bo 101 n2 a2]) rfl rfl rfl))
set_option maxRecDepth 4000 in
theorem y_E_303_12 (d : Nat) (as0 : Nat) (m : y_m) : y_R sp ph d 303 12 [none, none, none, none] [y_bo 106 0 as0] m = y_rI 1 m := (y_R_eq (md := z_md_303) rfl rfl).trans rfl
set_option maxRecDepth 4000 in
theorem y_E_303_15 (d : Nat) (as0 : Nat) (m : y_m) : y_R sp ph d 303 15 [none, none, none, none] [y_bo 106 0 as0] m = y_rI 2 m := (y_R_eq (md := z_md_303) rfl rfl).trans rfl
set_option maxRecDepth 4000 in
theorem y_E_303_18 (d : Nat) (m : y_m) : y_R sp ph d 303 18 [none, none, none, none] [] m = y_rI 0 m := (y_R_eq (md := z_md_303) rfl rfl).trans rfl
set_option maxRecDepth 4000 in
theorem y_C_303 (d : Nat) (a0 : Nat) (x1 : Int) (a2 : Nat) (n2 : Nat) (m : y_m) : y_V sp ph (d + 1) 303 [y_bo 10 0 a0, y_bi x1, y_bo 101 n2 a2] m = y_R sp ph d 303 0 [some (y_bo 10 0 a0), some (y_bi x1), some (y_bo 101 n2 a2), none] [] m := (y_V_eq (md := z_md_303) rfl rfl rfl).trans rfl
/-! LacedHolesLaw.number (LLacedHoles;[J)I -/
set_option maxRecDepth 4000 in
theorem y_E_304_0 (d : Nat) (a0 : Nat) (a1 : Nat) (n1 : Nat) (m : y_m) : y_R sp ph d 304 0 [some (y_bo 10 0 a0), some (y_bo 101 n1 a1), none] [] m = y_bL (y_V sp ph d 145 [y_bo 10 0 a0] m) (fun v1 m1 => y_g (0 ≤ (0 : Int) ∧ (0 : Int) < (n1 : Int)) (y_R sp ph d 304 13 [none, none, none] [] (y_sJ m1 a1 0 v1))) (fun e m1 => y_hx [(2, 10)] (fun t L S m => y_R sp ph d 304 t (y_mkt z_md_304 t L) S m) [some (y_bo 10 0 a0), some (y_bo 101 n1 a1), none] e m1) := by
  rw [y_R_eq (md := z_md_304) rfl rfl]
  exact (y_bLc fun v1 m1 => (y_sh (L' := [some (y_bo 10 0 a0), some (y_bo 101 n1 a1), none]) (S' := [y_bl v1, y_bi 0, y_bo 101 n1 a1]) rfl rfl rfl))
set_option maxRecDepth 4000 in
theorem y_E_304_10 (d : Nat) (as0 : Nat) (m : y_m) : y_R sp ph d 304 10 [none, none, none] [y_bo 106 0 as0] m = y_rI 1 m := (y_R_eq (md := z_md_304) rfl rfl).trans rfl
set_option maxRecDepth 4000 in
theorem y_E_304_13 (d : Nat) (m : y_m) : y_R sp ph d 304 13 [none, none, none] [] m = y_rI 0 m := (y_R_eq (md := z_md_304) rfl rfl).trans rfl
set_option maxRecDepth 4000 in
theorem y_C_304 (d : Nat) (a0 : Nat) (a1 : Nat) (n1 : Nat) (m : y_m) : y_V sp ph (d + 1) 304 [y_bo 10 0 a0, y_bo 101 n1 a1] m = y_R sp ph d 304 0 [some (y_bo 10 0 a0), some (y_bo 101 n1 a1), none] [] m := (y_V_eq (md := z_md_304) rfl rfl rfl).trans rfl
/-! LacedHolesLaw.count (LLacedHoles;I[J)I -/
set_option maxRecDepth 4000 in
theorem y_E_305_0 (d : Nat) (a0 : Nat) (x1 : Int) (a2 : Nat) (n2 : Nat) (m : y_m) : y_R sp ph d 305 0 [some (y_bo 10 0 a0), some (y_bi x1), some (y_bo 101 n2 a2), none] [] m = y_bL (y_V sp ph d 146 [y_bo 10 0 a0, y_bi x1] m) (fun v1 m1 => y_g (0 ≤ (0 : Int) ∧ (0 : Int) < (n2 : Int)) (y_R sp ph d 305 14 [none, none, none, none] [] (y_sJ m1 a2 0 v1))) (fun e m1 => y_hx [(0, 11)] (fun t L S m => y_R sp ph d 305 t (y_mkt z_md_305 t L) S m) [some (y_bo 10 0 a0), some (y_bi x1), some (y_bo 101 n2 a2), none] e m1) := by
  rw [y_R_eq (md := z_md_305) rfl rfl]
  exact (y_bLc fun v1 m1 => (y_sh (L' := [some (y_bo 10 0 a0), some (y_bi x1), some (y_bo 101 n2 a2), none]) (S' := [y_bl v1, y_bi 0, y_bo 101 n2 a2]) rfl rfl rfl))
set_option maxRecDepth 4000 in
theorem y_E_305_11 (d : Nat) (as0 : Nat) (m : y_m) : y_R sp ph d 305 11 [none, none, none, none] [y_bo 106 0 as0] m = y_rI 1 m := (y_R_eq (md := z_md_305) rfl rfl).trans rfl
set_option maxRecDepth 4000 in
theorem y_E_305_14 (d : Nat) (m : y_m) : y_R sp ph d 305 14 [none, none, none, none] [] m = y_rI 0 m := (y_R_eq (md := z_md_305) rfl rfl).trans rfl
set_option maxRecDepth 4000 in
theorem y_C_305 (d : Nat) (a0 : Nat) (x1 : Int) (a2 : Nat) (n2 : Nat) (m : y_m) : y_V sp ph (d + 1) 305 [y_bo 10 0 a0, y_bi x1, y_bo 101 n2 a2] m = y_R sp ph d 305 0 [some (y_bo 10 0 a0), some (y_bi x1), some (y_bo 101 n2 a2), none] [] m := (y_V_eq (md := z_md_305) rfl rfl rfl).trans rfl
/-! LacedHolesLaw.take (LLacedHoles;IJ[J)I -/
set_option maxRecDepth 4000 in
theorem y_E_306_0 (d : Nat) (a0 : Nat) (x1 : Int) (x2 : Int) (a4 : Nat) (n4 : Nat) (m : y_m) : y_R sp ph d 306 0 [some (y_bo 10 0 a0), some (y_bi x1), some (y_bl x2), none, some (y_bo 101 n4 a4), none] [] m = y_bI (y_V sp ph d 147 [y_bo 10 0 a0, y_bi x1, y_bl x2] m) (fun v1 m1 => y_g (0 ≤ (0 : Int) ∧ (0 : Int) < (n4 : Int)) (y_R sp ph d 306 18 [none, none, none, none, none, none] [] (y_sJ m1 a4 0 (z_w v1)))) (fun e m1 => y_hx [(0, 14)] (fun t L S m => y_R sp ph d 306 t (y_mkt z_md_306 t L) S m) [some (y_bo 10 0 a0), some (y_bi x1), some (y_bl x2), none, some (y_bo 101 n4 a4), none] e m1) := by
  rw [y_R_eq (md := z_md_306) rfl rfl]
  exact (y_bIc fun v1 m1 => (y_sh (L' := [some (y_bo 10 0 a0), some (y_bi x1), some (y_bl x2), none, some (y_bo 101 n4 a4), none]) (S' := [y_bi v1, y_bi 0, y_bo 101 n4 a4]) rfl rfl rfl))
set_option maxRecDepth 4000 in
theorem y_E_306_14 (d : Nat) (as0 : Nat) (m : y_m) : y_R sp ph d 306 14 [none, none, none, none, none, none] [y_bo 106 0 as0] m = y_rI 1 m := (y_R_eq (md := z_md_306) rfl rfl).trans rfl
set_option maxRecDepth 4000 in
theorem y_E_306_18 (d : Nat) (m : y_m) : y_R sp ph d 306 18 [none, none, none, none, none, none] [] m = y_rI 0 m := (y_R_eq (md := z_md_306) rfl rfl).trans rfl
set_option maxRecDepth 4000 in
theorem y_C_306 (d : Nat) (a0 : Nat) (x1 : Int) (x2 : Int) (a4 : Nat) (n4 : Nat) (m : y_m) : y_V sp ph (d + 1) 306 [y_bo 10 0 a0, y_bi x1, y_bl x2, y_bo 101 n4 a4] m = y_R sp ph d 306 0 [some (y_bo 10 0 a0), some (y_bi x1), some (y_bl x2), none, some (y_bo 101 n4 a4), none] [] m := (y_V_eq (md := z_md_306) rfl rfl rfl).trans rfl
/-! LacedHolesLaw.best (LLacedHoles;II[J)I -/
set_option maxRecDepth 4000 in
theorem y_E_307_0 (d : Nat) (a0 : Nat) (x1 : Int) (x2 : Int) (a3 : Nat) (n3 : Nat) (m : y_m) : y_R sp ph d 307 0 [some (y_bo 10 0 a0), some (y_bi x1), some (y_bi x2), some (y_bo 101 n3 a3), none] [] m = y_bI (y_V sp ph d 148 [y_bo 10 0 a0, y_bi x1, y_bi x2] m) (fun v1 m1 => y_g (0 ≤ (0 : Int) ∧ (0 : Int) < (n3 : Int)) (y_R sp ph d 307 17 [none, none, none, none, none] [] (y_sJ m1 a3 0 (z_w v1)))) (fun e m1 => y_hx [(0, 13)] (fun t L S m => y_R sp ph d 307 t (y_mkt z_md_307 t L) S m) [some (y_bo 10 0 a0), some (y_bi x1), some (y_bi x2), some (y_bo 101 n3 a3), none] e m1) := by
  rw [y_R_eq (md := z_md_307) rfl rfl]
  exact (y_bIc fun v1 m1 => (y_sh (L' := [some (y_bo 10 0 a0), some (y_bi x1), some (y_bi x2), some (y_bo 101 n3 a3), none]) (S' := [y_bi v1, y_bi 0, y_bo 101 n3 a3]) rfl rfl rfl))
set_option maxRecDepth 4000 in
theorem y_E_307_13 (d : Nat) (as0 : Nat) (m : y_m) : y_R sp ph d 307 13 [none, none, none, none, none] [y_bo 106 0 as0] m = y_rI 1 m := (y_R_eq (md := z_md_307) rfl rfl).trans rfl
set_option maxRecDepth 4000 in
theorem y_E_307_17 (d : Nat) (m : y_m) : y_R sp ph d 307 17 [none, none, none, none, none] [] m = y_rI 0 m := (y_R_eq (md := z_md_307) rfl rfl).trans rfl
set_option maxRecDepth 4000 in
theorem y_C_307 (d : Nat) (a0 : Nat) (x1 : Int) (x2 : Int) (a3 : Nat) (n3 : Nat) (m : y_m) : y_V sp ph (d + 1) 307 [y_bo 10 0 a0, y_bi x1, y_bi x2, y_bo 101 n3 a3] m = y_R sp ph d 307 0 [some (y_bo 10 0 a0), some (y_bi x1), some (y_bi x2), some (y_bo 101 n3 a3), none] [] m := (y_V_eq (md := z_md_307) rfl rfl rfl).trans rfl
/-! LacedHolesLaw.against (LLacedHoles;[J)I -/
set_option maxRecDepth 4000 in
theorem y_E_308_0 (d : Nat) (a0 : Nat) (a1 : Nat) (n1 : Nat) (m : y_m) : y_R sp ph d 308 0 [some (y_bo 10 0 a0), some (y_bo 101 n1 a1), none] [] m = y_bI (y_V sp ph d 149 [y_bo 10 0 a0] m) (fun v1 m1 => y_g (0 ≤ (0 : Int) ∧ (0 : Int) < (n1 : Int)) (y_R sp ph d 308 14 [none, none, none] [] (y_sJ m1 a1 0 (z_w v1)))) (fun e m1 => y_hx [(2, 11)] (fun t L S m => y_R sp ph d 308 t (y_mkt z_md_308 t L) S m) [some (y_bo 10 0 a0), some (y_bo 101 n1 a1), none] e m1) := by
  rw [y_R_eq (md := z_md_308) rfl rfl]
  exact (y_bIc fun v1 m1 => (y_sh (L' := [some (y_bo 10 0 a0), some (y_bo 101 n1 a1), none]) (S' := [y_bi v1, y_bi 0, y_bo 101 n1 a1]) rfl rfl rfl))
set_option maxRecDepth 4000 in
theorem y_E_308_11 (d : Nat) (as0 : Nat) (m : y_m) : y_R sp ph d 308 11 [none, none, none] [y_bo 106 0 as0] m = y_rI 1 m := (y_R_eq (md := z_md_308) rfl rfl).trans rfl
set_option maxRecDepth 4000 in
theorem y_E_308_14 (d : Nat) (m : y_m) : y_R sp ph d 308 14 [none, none, none] [] m = y_rI 0 m := (y_R_eq (md := z_md_308) rfl rfl).trans rfl
set_option maxRecDepth 4000 in
theorem y_C_308 (d : Nat) (a0 : Nat) (a1 : Nat) (n1 : Nat) (m : y_m) : y_V sp ph (d + 1) 308 [y_bo 10 0 a0, y_bo 101 n1 a1] m = y_R sp ph d 308 0 [some (y_bo 10 0 a0), some (y_bo 101 n1 a1), none] [] m := (y_V_eq (md := z_md_308) rfl rfl rfl).trans rfl
/-! LacedHolesLaw.itself (LLacedHoles;[J)I -/
set_option maxRecDepth 4000 in
theorem y_E_309_0 (d : Nat) (a0 : Nat) (a1 : Nat) (n1 : Nat) (m : y_m) : y_R sp ph d 309 0 [some (y_bo 10 0 a0), some (y_bo 101 n1 a1), none] [] m = y_bI (y_V sp ph d 153 [y_bo 10 0 a0] m) (fun v1 m1 => y_g (0 ≤ (0 : Int) ∧ (0 : Int) < (n1 : Int)) (y_R sp ph d 309 14 [none, none, none] [] (y_sJ m1 a1 0 (z_w v1)))) (fun e m1 => y_hx [(2, 11)] (fun t L S m => y_R sp ph d 309 t (y_mkt z_md_309 t L) S m) [some (y_bo 10 0 a0), some (y_bo 101 n1 a1), none] e m1) := by
  rw [y_R_eq (md := z_md_309) rfl rfl]
  exact (y_bIc fun v1 m1 => (y_sh (L' := [some (y_bo 10 0 a0), some (y_bo 101 n1 a1), none]) (S' := [y_bi v1, y_bi 0, y_bo 101 n1 a1]) rfl rfl rfl))
set_option maxRecDepth 4000 in
theorem y_E_309_11 (d : Nat) (as0 : Nat) (m : y_m) : y_R sp ph d 309 11 [none, none, none] [y_bo 106 0 as0] m = y_rI 1 m := (y_R_eq (md := z_md_309) rfl rfl).trans rfl
set_option maxRecDepth 4000 in
theorem y_E_309_14 (d : Nat) (m : y_m) : y_R sp ph d 309 14 [none, none, none] [] m = y_rI 0 m := (y_R_eq (md := z_md_309) rfl rfl).trans rfl
set_option maxRecDepth 4000 in
theorem y_C_309 (d : Nat) (a0 : Nat) (a1 : Nat) (n1 : Nat) (m : y_m) : y_V sp ph (d + 1) 309 [y_bo 10 0 a0, y_bo 101 n1 a1] m = y_R sp ph d 309 0 [some (y_bo 10 0 a0), some (y_bo 101 n1 a1), none] [] m := (y_V_eq (md := z_md_309) rfl rfl rfl).trans rfl
/-! LacedHolesLaw.two (LLacedHoles;I[J)I -/
set_option maxRecDepth 4000 in
theorem y_E_310_0 (d : Nat) (a0 : Nat) (x1 : Int) (a2 : Nat) (n2 : Nat) (m : y_m) : y_R sp ph d 310 0 [some (y_bo 10 0 a0), some (y_bi x1), some (y_bo 101 n2 a2), none] [] m = y_bI (y_V sp ph d 154 [y_bo 10 0 a0, y_bi x1] m) (fun v1 m1 => y_g (0 ≤ (0 : Int) ∧ (0 : Int) < (n2 : Int)) (y_R sp ph d 310 15 [none, none, none, none] [] (y_sJ m1 a2 0 (z_w v1)))) (fun e m1 => y_hx [(0, 12)] (fun t L S m => y_R sp ph d 310 t (y_mkt z_md_310 t L) S m) [some (y_bo 10 0 a0), some (y_bi x1), some (y_bo 101 n2 a2), none] e m1) := by
  rw [y_R_eq (md := z_md_310) rfl rfl]
  exact (y_bIc fun v1 m1 => (y_sh (L' := [some (y_bo 10 0 a0), some (y_bi x1), some (y_bo 101 n2 a2), none]) (S' := [y_bi v1, y_bi 0, y_bo 101 n2 a2]) rfl rfl rfl))
set_option maxRecDepth 4000 in
theorem y_E_310_12 (d : Nat) (as0 : Nat) (m : y_m) : y_R sp ph d 310 12 [none, none, none, none] [y_bo 106 0 as0] m = y_rI 1 m := (y_R_eq (md := z_md_310) rfl rfl).trans rfl
set_option maxRecDepth 4000 in
theorem y_E_310_15 (d : Nat) (m : y_m) : y_R sp ph d 310 15 [none, none, none, none] [] m = y_rI 0 m := (y_R_eq (md := z_md_310) rfl rfl).trans rfl
set_option maxRecDepth 4000 in
theorem y_C_310 (d : Nat) (a0 : Nat) (x1 : Int) (a2 : Nat) (n2 : Nat) (m : y_m) : y_V sp ph (d + 1) 310 [y_bo 10 0 a0, y_bi x1, y_bo 101 n2 a2] m = y_R sp ph d 310 0 [some (y_bo 10 0 a0), some (y_bi x1), some (y_bo 101 n2 a2), none] [] m := (y_V_eq (md := z_md_310) rfl rfl rfl).trans rfl
/-! LacedHolesLaw.see (LLacedHoles;II[J)I -/
set_option maxRecDepth 4000 in
theorem y_E_311_0 (d : Nat) (a0 : Nat) (x1 : Int) (x2 : Int) (a3 : Nat) (n3 : Nat) (m : y_m) : y_R sp ph d 311 0 [some (y_bo 10 0 a0), some (y_bi x1), some (y_bi x2), some (y_bo 101 n3 a3), none] [] m = y_bI (y_V sp ph d 156 [y_bo 10 0 a0, y_bi x1, y_bi x2] m) (fun v1 m1 => y_g (0 ≤ (0 : Int) ∧ (0 : Int) < (n3 : Int)) (y_R sp ph d 311 21 [none, none, none, none, none] [] (y_sJ m1 a3 0 (z_w v1)))) (fun e m1 => y_hx [(1, 13), (0, 17)] (fun t L S m => y_R sp ph d 311 t (y_mkt z_md_311 t L) S m) [some (y_bo 10 0 a0), some (y_bi x1), some (y_bi x2), some (y_bo 101 n3 a3), none] e m1) := by
  rw [y_R_eq (md := z_md_311) rfl rfl]
  exact (y_bIc fun v1 m1 => (y_sh (L' := [some (y_bo 10 0 a0), some (y_bi x1), some (y_bi x2), some (y_bo 101 n3 a3), none]) (S' := [y_bi v1, y_bi 0, y_bo 101 n3 a3]) rfl rfl rfl))
set_option maxRecDepth 4000 in
theorem y_E_311_13 (d : Nat) (as0 : Nat) (m : y_m) : y_R sp ph d 311 13 [none, none, none, none, none] [y_bo 106 0 as0] m = y_rI 1 m := (y_R_eq (md := z_md_311) rfl rfl).trans rfl
set_option maxRecDepth 4000 in
theorem y_E_311_17 (d : Nat) (as0 : Nat) (m : y_m) : y_R sp ph d 311 17 [none, none, none, none, none] [y_bo 106 0 as0] m = y_rI 2 m := (y_R_eq (md := z_md_311) rfl rfl).trans rfl
set_option maxRecDepth 4000 in
theorem y_E_311_21 (d : Nat) (m : y_m) : y_R sp ph d 311 21 [none, none, none, none, none] [] m = y_rI 0 m := (y_R_eq (md := z_md_311) rfl rfl).trans rfl
set_option maxRecDepth 4000 in
theorem y_C_311 (d : Nat) (a0 : Nat) (x1 : Int) (x2 : Int) (a3 : Nat) (n3 : Nat) (m : y_m) : y_V sp ph (d + 1) 311 [y_bo 10 0 a0, y_bi x1, y_bi x2, y_bo 101 n3 a3] m = y_R sp ph d 311 0 [some (y_bo 10 0 a0), some (y_bi x1), some (y_bi x2), some (y_bo 101 n3 a3), none] [] m := (y_V_eq (md := z_md_311) rfl rfl rfl).trans rfl
/-! LacedHolesLaw.seen (LLacedHoles;[J)I -/
set_option maxRecDepth 4000 in
theorem y_E_312_0 (d : Nat) (a0 : Nat) (a1 : Nat) (n1 : Nat) (m : y_m) : y_R sp ph d 312 0 [some (y_bo 10 0 a0), some (y_bo 101 n1 a1), none] [] m = y_bI (y_V sp ph d 160 [y_bo 10 0 a0] m) (fun v1 m1 => y_g (0 ≤ (0 : Int) ∧ (0 : Int) < (n1 : Int)) (y_R sp ph d 312 14 [none, none, none] [] (y_sJ m1 a1 0 (z_w v1)))) (fun e m1 => y_hx [(2, 11)] (fun t L S m => y_R sp ph d 312 t (y_mkt z_md_312 t L) S m) [some (y_bo 10 0 a0), some (y_bo 101 n1 a1), none] e m1) := by
  rw [y_R_eq (md := z_md_312) rfl rfl]
  exact (y_bIc fun v1 m1 => (y_sh (L' := [some (y_bo 10 0 a0), some (y_bo 101 n1 a1), none]) (S' := [y_bi v1, y_bi 0, y_bo 101 n1 a1]) rfl rfl rfl))
set_option maxRecDepth 4000 in
theorem y_E_312_11 (d : Nat) (as0 : Nat) (m : y_m) : y_R sp ph d 312 11 [none, none, none] [y_bo 106 0 as0] m = y_rI 1 m := (y_R_eq (md := z_md_312) rfl rfl).trans rfl
set_option maxRecDepth 4000 in
theorem y_E_312_14 (d : Nat) (m : y_m) : y_R sp ph d 312 14 [none, none, none] [] m = y_rI 0 m := (y_R_eq (md := z_md_312) rfl rfl).trans rfl
set_option maxRecDepth 4000 in
theorem y_C_312 (d : Nat) (a0 : Nat) (a1 : Nat) (n1 : Nat) (m : y_m) : y_V sp ph (d + 1) 312 [y_bo 10 0 a0, y_bo 101 n1 a1] m = y_R sp ph d 312 0 [some (y_bo 10 0 a0), some (y_bo 101 n1 a1), none] [] m := (y_V_eq (md := z_md_312) rfl rfl rfl).trans rfl
/-! LacedHolesLaw.knot (LLacedHoles;II[J)I -/
set_option maxRecDepth 4000 in
theorem y_E_313_0 (d : Nat) (a0 : Nat) (x1 : Int) (x2 : Int) (a3 : Nat) (n3 : Nat) (m : y_m) : y_R sp ph d 313 0 [some (y_bo 10 0 a0), some (y_bi x1), some (y_bi x2), some (y_bo 101 n3 a3), none] [] m = y_bI (y_V sp ph d 161 [y_bo 10 0 a0, y_bi x1, y_bi x2] m) (fun v1 m1 => y_g (0 ≤ (0 : Int) ∧ (0 : Int) < (n3 : Int)) (y_R sp ph d 313 21 [none, none, none, none, none] [] (y_sJ m1 a3 0 (z_w v1)))) (fun e m1 => y_hx [(2, 13), (0, 17)] (fun t L S m => y_R sp ph d 313 t (y_mkt z_md_313 t L) S m) [some (y_bo 10 0 a0), some (y_bi x1), some (y_bi x2), some (y_bo 101 n3 a3), none] e m1) := by
  rw [y_R_eq (md := z_md_313) rfl rfl]
  exact (y_bIc fun v1 m1 => (y_sh (L' := [some (y_bo 10 0 a0), some (y_bi x1), some (y_bi x2), some (y_bo 101 n3 a3), none]) (S' := [y_bi v1, y_bi 0, y_bo 101 n3 a3]) rfl rfl rfl))
set_option maxRecDepth 4000 in
theorem y_E_313_13 (d : Nat) (as0 : Nat) (m : y_m) : y_R sp ph d 313 13 [none, none, none, none, none] [y_bo 106 0 as0] m = y_rI 1 m := (y_R_eq (md := z_md_313) rfl rfl).trans rfl
set_option maxRecDepth 4000 in
theorem y_E_313_17 (d : Nat) (as0 : Nat) (m : y_m) : y_R sp ph d 313 17 [none, none, none, none, none] [y_bo 106 0 as0] m = y_rI 2 m := (y_R_eq (md := z_md_313) rfl rfl).trans rfl
set_option maxRecDepth 4000 in
theorem y_E_313_21 (d : Nat) (m : y_m) : y_R sp ph d 313 21 [none, none, none, none, none] [] m = y_rI 0 m := (y_R_eq (md := z_md_313) rfl rfl).trans rfl
set_option maxRecDepth 4000 in
theorem y_C_313 (d : Nat) (a0 : Nat) (x1 : Int) (x2 : Int) (a3 : Nat) (n3 : Nat) (m : y_m) : y_V sp ph (d + 1) 313 [y_bo 10 0 a0, y_bi x1, y_bi x2, y_bo 101 n3 a3] m = y_R sp ph d 313 0 [some (y_bo 10 0 a0), some (y_bi x1), some (y_bi x2), some (y_bo 101 n3 a3), none] [] m := (y_V_eq (md := z_md_313) rfl rfl rfl).trans rfl
/-! LacedHolesLaw.wear (LLacedHoles;I[J)I -/
set_option maxRecDepth 4000 in
theorem y_E_314_0 (d : Nat) (a0 : Nat) (x1 : Int) (a2 : Nat) (n2 : Nat) (m : y_m) : y_R sp ph d 314 0 [some (y_bo 10 0 a0), some (y_bi x1), some (y_bo 101 n2 a2), none] [] m = y_bI (y_V sp ph d 162 [y_bo 10 0 a0, y_bi x1] m) (fun v1 m1 => y_g (0 ≤ (0 : Int) ∧ (0 : Int) < (n2 : Int)) (y_R sp ph d 314 18 [none, none, none, none] [] (y_sJ m1 a2 0 (z_w v1)))) (fun e m1 => y_hx [(1, 12), (2, 15)] (fun t L S m => y_R sp ph d 314 t (y_mkt z_md_314 t L) S m) [some (y_bo 10 0 a0), some (y_bi x1), some (y_bo 101 n2 a2), none] e m1) := by
  rw [y_R_eq (md := z_md_314) rfl rfl]
  exact (y_bIc fun v1 m1 => (y_sh (L' := [some (y_bo 10 0 a0), some (y_bi x1), some (y_bo 101 n2 a2), none]) (S' := [y_bi v1, y_bi 0, y_bo 101 n2 a2]) rfl rfl rfl))
set_option maxRecDepth 4000 in
theorem y_E_314_12 (d : Nat) (as0 : Nat) (m : y_m) : y_R sp ph d 314 12 [none, none, none, none] [y_bo 106 0 as0] m = y_rI 1 m := (y_R_eq (md := z_md_314) rfl rfl).trans rfl
set_option maxRecDepth 4000 in
theorem y_E_314_15 (d : Nat) (as0 : Nat) (m : y_m) : y_R sp ph d 314 15 [none, none, none, none] [y_bo 106 0 as0] m = y_rI 2 m := (y_R_eq (md := z_md_314) rfl rfl).trans rfl
set_option maxRecDepth 4000 in
theorem y_E_314_18 (d : Nat) (m : y_m) : y_R sp ph d 314 18 [none, none, none, none] [] m = y_rI 0 m := (y_R_eq (md := z_md_314) rfl rfl).trans rfl
set_option maxRecDepth 4000 in
theorem y_C_314 (d : Nat) (a0 : Nat) (x1 : Int) (a2 : Nat) (n2 : Nat) (m : y_m) : y_V sp ph (d + 1) 314 [y_bo 10 0 a0, y_bi x1, y_bo 101 n2 a2] m = y_R sp ph d 314 0 [some (y_bo 10 0 a0), some (y_bi x1), some (y_bo 101 n2 a2), none] [] m := (y_V_eq (md := z_md_314) rfl rfl rfl).trans rfl
/-! LacedHolesLaw.keep (LLacedHoles;[J)I -/
set_option maxRecDepth 4000 in
theorem y_E_315_0 (d : Nat) (a0 : Nat) (a1 : Nat) (n1 : Nat) (m : y_m) : y_R sp ph d 315 0 [some (y_bo 10 0 a0), some (y_bo 101 n1 a1), none] [] m = y_bI (y_V sp ph d 163 [y_bo 10 0 a0] m) (fun v1 m1 => y_g (0 ≤ (0 : Int) ∧ (0 : Int) < (n1 : Int)) (y_R sp ph d 315 14 [none, none, none] [] (y_sJ m1 a1 0 (z_w v1)))) (fun e m1 => y_hx [(2, 11)] (fun t L S m => y_R sp ph d 315 t (y_mkt z_md_315 t L) S m) [some (y_bo 10 0 a0), some (y_bo 101 n1 a1), none] e m1) := by
  rw [y_R_eq (md := z_md_315) rfl rfl]
  exact (y_bIc fun v1 m1 => (y_sh (L' := [some (y_bo 10 0 a0), some (y_bo 101 n1 a1), none]) (S' := [y_bi v1, y_bi 0, y_bo 101 n1 a1]) rfl rfl rfl))
set_option maxRecDepth 4000 in
theorem y_E_315_11 (d : Nat) (as0 : Nat) (m : y_m) : y_R sp ph d 315 11 [none, none, none] [y_bo 106 0 as0] m = y_rI 1 m := (y_R_eq (md := z_md_315) rfl rfl).trans rfl
set_option maxRecDepth 4000 in
theorem y_E_315_14 (d : Nat) (m : y_m) : y_R sp ph d 315 14 [none, none, none] [] m = y_rI 0 m := (y_R_eq (md := z_md_315) rfl rfl).trans rfl
set_option maxRecDepth 4000 in
theorem y_C_315 (d : Nat) (a0 : Nat) (a1 : Nat) (n1 : Nat) (m : y_m) : y_V sp ph (d + 1) 315 [y_bo 10 0 a0, y_bo 101 n1 a1] m = y_R sp ph d 315 0 [some (y_bo 10 0 a0), some (y_bo 101 n1 a1), none] [] m := (y_V_eq (md := z_md_315) rfl rfl rfl).trans rfl
/-! LacedHolesLaw.weeks (LLacedHoles;II[J)I -/
set_option maxRecDepth 4000 in
theorem y_E_316_0 (d : Nat) (a0 : Nat) (x1 : Int) (x2 : Int) (a3 : Nat) (n3 : Nat) (m : y_m) : y_R sp ph d 316 0 [some (y_bo 10 0 a0), some (y_bi x1), some (y_bi x2), some (y_bo 101 n3 a3), none] [] m = y_bI (y_V sp ph d 165 [y_bo 10 0 a0, y_bi x1, y_bi x2] m) (fun v1 m1 => y_g (0 ≤ (0 : Int) ∧ (0 : Int) < (n3 : Int)) (y_R sp ph d 316 17 [none, none, none, none, none] [] (y_sJ m1 a3 0 (z_w v1)))) (fun e m1 => y_hx [(0, 13)] (fun t L S m => y_R sp ph d 316 t (y_mkt z_md_316 t L) S m) [some (y_bo 10 0 a0), some (y_bi x1), some (y_bi x2), some (y_bo 101 n3 a3), none] e m1) := by
  rw [y_R_eq (md := z_md_316) rfl rfl]
  exact (y_bIc fun v1 m1 => (y_sh (L' := [some (y_bo 10 0 a0), some (y_bi x1), some (y_bi x2), some (y_bo 101 n3 a3), none]) (S' := [y_bi v1, y_bi 0, y_bo 101 n3 a3]) rfl rfl rfl))
set_option maxRecDepth 4000 in
theorem y_E_316_13 (d : Nat) (as0 : Nat) (m : y_m) : y_R sp ph d 316 13 [none, none, none, none, none] [y_bo 106 0 as0] m = y_rI 1 m := (y_R_eq (md := z_md_316) rfl rfl).trans rfl
set_option maxRecDepth 4000 in
theorem y_E_316_17 (d : Nat) (m : y_m) : y_R sp ph d 316 17 [none, none, none, none, none] [] m = y_rI 0 m := (y_R_eq (md := z_md_316) rfl rfl).trans rfl
set_option maxRecDepth 4000 in
theorem y_C_316 (d : Nat) (a0 : Nat) (x1 : Int) (x2 : Int) (a3 : Nat) (n3 : Nat) (m : y_m) : y_V sp ph (d + 1) 316 [y_bo 10 0 a0, y_bi x1, y_bi x2, y_bo 101 n3 a3] m = y_R sp ph d 316 0 [some (y_bo 10 0 a0), some (y_bi x1), some (y_bi x2), some (y_bo 101 n3 a3), none] [] m := (y_V_eq (md := z_md_316) rfl rfl rfl).trans rfl
end YEq298_317
