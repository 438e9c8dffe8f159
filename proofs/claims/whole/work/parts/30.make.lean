def ri_X6 (G : Gg) (M : Mm) (r0 : Nat) (u : Gg × Mm) : Prop :=
  ∃ q1, q1 ∉ G.1 ∧ 
  u = ((gN G q1 10 80), (mwI (mwP (mz M q1) r0 0 (some q1)) r0 1 (0 : Int32)))
def ri_X1 (G : Gg) (M : Mm) (r0 : Nat) (u : Gg × Mm) : Prop :=
  u = (G, (mwJ (mwJ M r0 0 (0 : Int64)) r0 1 (1 : Int64)))
def ri_X0 (G : Gg) (M : Mm) (r0 : Nat) (u : Gg × Mm) : Prop :=
  ∃ q1, q1 ∉ G.1 ∧ 
  ∃ q2, q2 ∉ (gN G q1 10 64).1 ∧ 
  ∃ q3, q3 ∉ (gN (gN G q1 10 64) q2 10 8).1 ∧ 
  ∃ q4, q4 ∉ (gN (gN (gN G q1 10 64) q2 10 8) q3 10 8).1 ∧ 
  u = ((gN (gN (gN (gN G q1 10 64) q2 10 8) q3 10 8) q4 11 8), (mwJ (mwP (mz (mwP (mz (mwP (mz (mwP (mz (mwI (mwI M r0 0 (0 : Int32)) r0 1 (1 : Int32)) q1) r0 2 (some q1)) q2) r0 3 (some q2)) q3) r0 4 (some q3)) q4) r0 5 (some q4)) r0 6 (0 : Int64)))
def ri_X5 (G : Gg) (M : Mm) (r0 : Nat) (u : Gg × Mm) : Prop :=
  ∃ q1, q1 ∉ G.1 ∧ 
  ∃ q2, q2 ∉ (gN G q1 10 8).1 ∧ 
  u = ((gN (gN G q1 10 8) q2 10 8), (mwI (mwI (mwP (mz (mwP (mz M q1) r0 0 (some q1)) q2) r0 1 (some q2)) r0 2 (0 : Int32)) r0 3 (0 : Int32)))
def ri_X7 (G : Gg) (M : Mm) (r0 : Nat) (u : Gg × Mm) : Prop :=
  ∃ q1, q1 ∉ G.1 ∧ 
  ∃ q2, q2 ∉ (gN G q1 11 64).1 ∧ 
  u = ((gN (gN G q1 11 64) q2 11 8), (mwJ (mwP (mz (mwP (mz M q1) r0 0 (some q1)) q2) r0 1 (some q2)) r0 2 (1 : Int64)))
def ri_X3 (G : Gg) (M : Mm) (r0 : Nat) (u : Gg × Mm) : Prop :=
  ∃ q1, q1 ∉ G.1 ∧ 
  ∃ q2, q2 ∉ (gN G q1 11 64).1 ∧ 
  u = ((gN (gN G q1 11 64) q2 11 256), (mwI (mwP (mz (mwP (mz M q1) r0 0 (some q1)) q2) r0 1 (some q2)) r0 2 (0 : Int32)))
def ri_X2 (G : Gg) (M : Mm) (r0 : Nat) (u : Gg × Mm) : Prop :=
  ∃ q1, q1 ∉ G.1 ∧ 
  ∃ u2, ri_X3 (gN G q1 3 0) (mz M q1) q1 u2 ∧ 
  ∃ q3, q3 ∉ u2.1.1 ∧ 
  u = ((gN u2.1 q3 11 8), (mwP (mz (mwP u2.2 r0 0 (some q1)) q3) r0 1 (some q3)))
def ri_X4 (G : Gg) (M : Mm) (r0 : Nat) (u : Gg × Mm) : Prop :=
  u = (G, (mwJ (mwJ (mwI M r0 0 (0 : Int32)) r0 1 (0 : Int64)) r0 2 (1 : Int64)))
def ri_X8 (G : Gg) (M : Mm) (r0 : Nat) (u : Gg × Mm) : Prop :=
  ∃ q1, q1 ∉ G.1 ∧ 
  ∃ u2, ri_X6 (gN G q1 6 0) (mz M q1) q1 u2 ∧ 
  ∃ q3, q3 ∉ u2.1.1 ∧ 
  ∃ q4, q4 ∉ (gN u2.1 q3 10 8).1 ∧ 
  ∃ q5, q5 ∉ (gN (gN u2.1 q3 10 8) q4 12 6).1 ∧ 
  ∃ u6, ri_X0 (gN (gN (gN u2.1 q3 10 8) q4 12 6) q5 0 0) (mz (mwP (mz (mwI (mwP (mz (mwP u2.2 r0 0 (some q1)) q3) r0 1 (some q3)) r0 2 (0 : Int32)) q4) r0 3 (some q4)) q5) q5 u6 ∧ 
  ∃ q9, q9 ∉ u6.1.1 ∧ 
  ∃ u10, ri_X0 (gN u6.1 q9 0 0) (mz (mwP u6.2 q4 (Int32.toNatClampNeg (0 : Int32)) (some q5)) q9) q9 u10 ∧ 
  ∃ q13, q13 ∉ u10.1.1 ∧ 
  ∃ u14, ri_X0 (gN u10.1 q13 0 0) (mz (mwP u10.2 q4 (Int32.toNatClampNeg ((0 : Int32) + 1)) (some q9)) q13) q13 u14 ∧ 
  ∃ q17, q17 ∉ u14.1.1 ∧ 
  ∃ u18, ri_X0 (gN u14.1 q17 0 0) (mz (mwP u14.2 q4 (Int32.toNatClampNeg (((0 : Int32) + 1) + 1)) (some q13)) q17) q17 u18 ∧ 
  ∃ q21, q21 ∉ u18.1.1 ∧ 
  ∃ u22, ri_X0 (gN u18.1 q21 0 0) (mz (mwP u18.2 q4 (Int32.toNatClampNeg ((((0 : Int32) + 1) + 1) + 1)) (some q17)) q21) q21 u22 ∧ 
  ∃ q25, q25 ∉ u22.1.1 ∧ 
  ∃ u26, ri_X0 (gN u22.1 q25 0 0) (mz (mwP u22.2 q4 (Int32.toNatClampNeg (((((0 : Int32) + 1) + 1) + 1) + 1)) (some q21)) q25) q25 u26 ∧ 
  ∃ q29, q29 ∉ u26.1.1 ∧ 
  ∃ u30, ri_X0 (gN u26.1 q29 0 0) (mz (mwP u26.2 q4 (Int32.toNatClampNeg ((((((0 : Int32) + 1) + 1) + 1) + 1) + 1)) (some q25)) q29) q29 u30 ∧ 
  ∃ q32, q32 ∉ u30.1.1 ∧ 
  ∃ u33, ri_X5 (gN u30.1 q32 5 0) (mz (mwP u30.2 r0 4 (some q29)) q32) q32 u33 ∧ 
  ∃ q35, q35 ∉ u33.1.1 ∧ 
  ∃ u36, ri_X7 (gN u33.1 q35 7 0) (mz (mwP u33.2 r0 5 (some q32)) q35) q35 u36 ∧ 
  ∃ q38, q38 ∉ u36.1.1 ∧ 
  ∃ u39, ri_X2 (gN u36.1 q38 2 0) (mz (mwP u36.2 r0 6 (some q35)) q38) q38 u39 ∧ 
  ∃ q41, q41 ∉ u39.1.1 ∧ 
  ∃ u42, ri_X4 (gN u39.1 q41 4 0) (mz (mwP u39.2 r0 7 (some q38)) q41) q41 u42 ∧ 
  ∃ q44, q44 ∉ u42.1.1 ∧ 
  ∃ u45, ri_X1 (gN u42.1 q44 1 0) (mz (mwP u42.2 r0 8 (some q41)) q44) q44 u45 ∧ 
  u = (u45.1, (mwP u45.2 r0 9 (some q44)))
def ri_X9 (G : Gg) (M : Mm) (r0 : Nat) (u : Gg × Mm) : Prop :=
  ∃ q1, q1 ∉ G.1 ∧ 
  ∃ q2, q2 ∉ (gN G q1 10 80).1 ∧ 
  ∃ q3, q3 ∉ (gN (gN G q1 10 80) q2 10 7).1 ∧ 
  ∃ q4, q4 ∉ (gN (gN (gN G q1 10 80) q2 10 7) q3 10 7).1 ∧ 
  ∃ q5, q5 ∉ (gN (gN (gN (gN G q1 10 80) q2 10 7) q3 10 7) q4 10 448).1 ∧ 
  ∃ q6, q6 ∉ (gN (gN (gN (gN (gN G q1 10 80) q2 10 7) q3 10 7) q4 10 448) q5 10 8).1 ∧ 
  ∃ q7, q7 ∉ (gN (gN (gN (gN (gN (gN G q1 10 80) q2 10 7) q3 10 7) q4 10 448) q5 10 8) q6 10 8).1 ∧ 
  ∃ q8, q8 ∉ (gN (gN (gN (gN (gN (gN (gN G q1 10 80) q2 10 7) q3 10 7) q4 10 448) q5 10 8) q6 10 8) q7 11 64).1 ∧ 
  ∃ q9, q9 ∉ (gN (gN (gN (gN (gN (gN (gN (gN G q1 10 80) q2 10 7) q3 10 7) q4 10 448) q5 10 8) q6 10 8) q7 11 64) q8 11 8).1 ∧ 
  ∃ q10, q10 ∉ (gN (gN (gN (gN (gN (gN (gN (gN (gN G q1 10 80) q2 10 7) q3 10 7) q4 10 448) q5 10 8) q6 10 8) q7 11 64) q8 11 8) q9 11 64).1 ∧ 
  ∃ q11, q11 ∉ (gN (gN (gN (gN (gN (gN (gN (gN (gN (gN G q1 10 80) q2 10 7) q3 10 7) q4 10 448) q5 10 8) q6 10 8) q7 11 64) q8 11 8) q9 11 64) q10 11 8).1 ∧ 
  ∃ q12, q12 ∉ (gN (gN (gN (gN (gN (gN (gN (gN (gN (gN (gN G q1 10 80) q2 10 7) q3 10 7) q4 10 448) q5 10 8) q6 10 8) q7 11 64) q8 11 8) q9 11 64) q10 11 8) q11 10 8).1 ∧ 
  ∃ q13, q13 ∉ (gN (gN (gN (gN (gN (gN (gN (gN (gN (gN (gN (gN G q1 10 80) q2 10 7) q3 10 7) q4 10 448) q5 10 8) q6 10 8) q7 11 64) q8 11 8) q9 11 64) q10 11 8) q11 10 8) q12 10 8).1 ∧ 
  ∃ q14, q14 ∉ (gN (gN (gN (gN (gN (gN (gN (gN (gN (gN (gN (gN (gN G q1 10 80) q2 10 7) q3 10 7) q4 10 448) q5 10 8) q6 10 8) q7 11 64) q8 11 8) q9 11 64) q10 11 8) q11 10 8) q12 10 8) q13 10 8).1 ∧ 
  ∃ q15, q15 ∉ (gN (gN (gN (gN (gN (gN (gN (gN (gN (gN (gN (gN (gN (gN G q1 10 80) q2 10 7) q3 10 7) q4 10 448) q5 10 8) q6 10 8) q7 11 64) q8 11 8) q9 11 64) q10 11 8) q11 10 8) q12 10 8) q13 10 8) q14 10 8).1 ∧ 
  ∃ q16, q16 ∉ (gN (gN (gN (gN (gN (gN (gN (gN (gN (gN (gN (gN (gN (gN (gN G q1 10 80) q2 10 7) q3 10 7) q4 10 448) q5 10 8) q6 10 8) q7 11 64) q8 11 8) q9 11 64) q10 11 8) q11 10 8) q12 10 8) q13 10 8) q14 10 8) q15 11 64).1 ∧ 
  u = ((gN (gN (gN (gN (gN (gN (gN (gN (gN (gN (gN (gN (gN (gN (gN (gN G q1 10 80) q2 10 7) q3 10 7) q4 10 448) q5 10 8) q6 10 8) q7 11 64) q8 11 8) q9 11 64) q10 11 8) q11 10 8) q12 10 8) q13 10 8) q14 10 8) q15 11 64) q16 11 64), (mwP (mz (mwP (mz (mwP (mz (mwP (mz (mwP (mz (mwP (mz (mwP (mz (mwP (mz (mwP (mz (mwP (mz (mwP (mz (mwP (mz (mwP (mz (mwP (mz (mwP (mz (mwP (mz M q1) r0 1 (some q1)) q2) r0 3 (some q2)) q3) r0 4 (some q3)) q4) r0 5 (some q4)) q5) r0 6 (some q5)) q6) r0 7 (some q6)) q7) r0 9 (some q7)) q8) r0 10 (some q8)) q9) r0 11 (some q9)) q10) r0 12 (some q10)) q11) r0 13 (some q11)) q12) r0 14 (some q12)) q13) r0 15 (some q13)) q14) r0 16 (some q14)) q15) r0 18 (some q15)) q16) r0 19 (some q16)))
theorem wo_X6_3 : Cond.methodLink RX6 3 Lib.objectInit ∈ TBL := by decide +kernel
theorem wo_X1_1 : Cond.methodLink RX1 1 Lib.objectInit ∈ TBL := by decide +kernel
theorem wo_X0_3 : Cond.methodLink RX0 3 Lib.objectInit ∈ TBL := by decide +kernel
theorem wo_X5_3 : Cond.methodLink RX5 3 Lib.objectInit ∈ TBL := by decide +kernel
theorem wo_X7_3 : Cond.methodLink RX7 3 Lib.objectInit ∈ TBL := by decide +kernel
theorem wo_X3_3 : Cond.methodLink RX3 3 Lib.objectInit ∈ TBL := by decide +kernel
theorem wo_X2_3 : Cond.methodLink RX2 3 Lib.objectInit ∈ TBL := by decide +kernel
theorem wl_X2_9 : Cond.classLink RX2 9 RX3 ∈ TBL := by decide +kernel
theorem wq_X3 : Cond.instantiable RX3 3 ∈ TBL := by decide +kernel
theorem wo_X4_1 : Cond.methodLink RX4 1 Lib.objectInit ∈ TBL := by decide +kernel
theorem wo_X8_1 : Cond.methodLink RX8 1 Lib.objectInit ∈ TBL := by decide +kernel
theorem wl_X8_7 : Cond.classLink RX8 7 RX6 ∈ TBL := by decide +kernel
theorem wq_X6 : Cond.instantiable RX6 2 ∈ TBL := by decide +kernel
theorem wl_X8_24 : Cond.classLink RX8 24 RX0 ∈ TBL := by decide +kernel
theorem wq_X0 : Cond.instantiable RX0 7 ∈ TBL := by decide +kernel
theorem wl_X8_35 : Cond.classLink RX8 35 RX5 ∈ TBL := by decide +kernel
theorem wq_X5 : Cond.instantiable RX5 4 ∈ TBL := by decide +kernel
theorem wl_X8_42 : Cond.classLink RX8 42 RX7 ∈ TBL := by decide +kernel
theorem wq_X7 : Cond.instantiable RX7 3 ∈ TBL := by decide +kernel
theorem wl_X8_49 : Cond.classLink RX8 49 RX2 ∈ TBL := by decide +kernel
theorem wq_X2 : Cond.instantiable RX2 2 ∈ TBL := by decide +kernel
theorem wl_X8_56 : Cond.classLink RX8 56 RX4 ∈ TBL := by decide +kernel
theorem wq_X4 : Cond.instantiable RX4 3 ∈ TBL := by decide +kernel
theorem wl_X8_63 : Cond.classLink RX8 63 RX1 ∈ TBL := by decide +kernel
theorem wq_X1 : Cond.instantiable RX1 2 ∈ TBL := by decide +kernel
theorem wo_X9_1 : Cond.methodLink RX9 1 Lib.objectInit ∈ TBL := by decide +kernel
theorem fz_X0 : ∀ j, j < 7 → defaultValue (tyX0 j) = vp_V (fz 0) j := fun j hj => by
  rcases (show j = 0 ∨ j = 1 ∨ j = 2 ∨ j = 3 ∨ j = 4 ∨ j = 5 ∨ j = 6 by omega) with rfl | rfl | rfl | rfl | rfl | rfl | rfl <;> rfl
theorem fz_X1 : ∀ j, j < 2 → defaultValue (tyX1 j) = vp_V (fz 1) j := fun j hj => by
  rcases (show j = 0 ∨ j = 1 by omega) with rfl | rfl <;> rfl
theorem fz_X2 : ∀ j, j < 2 → defaultValue (tyX2 j) = vp_V (fz 2) j := fun j hj => by
  rcases (show j = 0 ∨ j = 1 by omega) with rfl | rfl <;> rfl
theorem fz_X3 : ∀ j, j < 3 → defaultValue (tyX3 j) = vp_V (fz 3) j := fun j hj => by
  rcases (show j = 0 ∨ j = 1 ∨ j = 2 by omega) with rfl | rfl | rfl <;> rfl
theorem fz_X4 : ∀ j, j < 3 → defaultValue (tyX4 j) = vp_V (fz 4) j := fun j hj => by
  rcases (show j = 0 ∨ j = 1 ∨ j = 2 by omega) with rfl | rfl | rfl <;> rfl
theorem fz_X5 : ∀ j, j < 4 → defaultValue (tyX5 j) = vp_V (fz 5) j := fun j hj => by
  rcases (show j = 0 ∨ j = 1 ∨ j = 2 ∨ j = 3 by omega) with rfl | rfl | rfl | rfl <;> rfl
theorem fz_X6 : ∀ j, j < 2 → defaultValue (tyX6 j) = vp_V (fz 6) j := fun j hj => by
  rcases (show j = 0 ∨ j = 1 by omega) with rfl | rfl <;> rfl
theorem fz_X7 : ∀ j, j < 3 → defaultValue (tyX7 j) = vp_V (fz 7) j := fun j hj => by
  rcases (show j = 0 ∨ j = 1 ∨ j = 2 by omega) with rfl | rfl | rfl <;> rfl
theorem fz_X8 : ∀ j, j < 10 → defaultValue (tyX8 j) = vp_V (fz 8) j := fun j hj => by
  rcases (show j = 0 ∨ j = 1 ∨ j = 2 ∨ j = 3 ∨ j = 4 ∨ j = 5 ∨ j = 6 ∨ j = 7 ∨ j = 8 ∨ j = 9 by omega) with rfl | rfl | rfl | rfl | rfl | rfl | rfl | rfl | rfl | rfl <;> rfl
theorem fz_X9 : ∀ j, j < 23 → defaultValue (tyX9 j) = vp_V (fz 9) j := fun j hj => by
  rcases (show j = 0 ∨ j = 1 ∨ j = 2 ∨ j = 3 ∨ j = 4 ∨ j = 5 ∨ j = 6 ∨ j = 7 ∨ j = 8 ∨ j = 9 ∨ j = 10 ∨ j = 11 ∨ j = 12 ∨ j = 13 ∨ j = 14 ∨ j = 15 ∨ j = 16 ∨ j = 17 ∨ j = 18 ∨ j = 19 ∨ j = 20 ∨ j = 21 ∨ j = 22 by omega) with rfl | rfl | rfl | rfl | rfl | rfl | rfl | rfl | rfl | rfl | rfl | rfl | rfl | rfl | rfl | rfl | rfl | rfl | rfl | rfl | rfl | rfl | rfl <;> rfl
abbrev rm_X6_init : Room := { frames := 1, cells := 1, slots := 80, locals := 12 }
set_option maxHeartbeats 4000000 in
set_option maxRecDepth 100000 in
theorem c_X6_init (l : Launch) (D : va_G) (cy : Cyy) (G : Gg) (M : Mm) (r0 : Nat) (ha : isK G r0 6) : CN l yX6_init wz_X6_init rm_X6_init D cy G M r0 1 80 noX (ri_X6 G M r0) := by
  refine CN_of (cc := cX6_init) (nL := 1) (own := RX6) (by decide) rfl rfl rfl (Nat.le_of_ble_eq_true rfl) ?_
  intro p e s m args below meth c A ls X hr hlk hin hXX w hl
  have hx := X.1.1
  have hb := X.1.2.1
  have hX : exm G M r0 (G, M) := exm_rf G M r0
  refine lv_aload_n hx hb dX6_init_0 rfl (lv_at hl 0 rfl) ?_
  refine zobj X hl.1 (tb wo_X6_3) (tb wob) (tb woc) dX6_init_1 (by decide) (Nat.le_of_ble_eq_true rfl) ?_
  refine lv_aload_n hx hb dX6_init_4 rfl (lv_at hl 0 rfl) ?_
  refine lv_bipush (v := 80) hx hb dX6_init_5 (by decide) ?_
  refine zAi X w (tb wai) 80 (by decide) (by decide) (by decide) (by decide) (by decide) dX6_init_7 (fun q1 H n_q1 w => ?_)
  have o_q1 : q1 ∉ G.1 := fun h => n_q1 ((hX.1 _ h).1)
  have hX := exm_N (k := 10) (n := 80) hX n_q1
  refine zpF X w hin 6 0 9 tyX6 (C := RX6) (T := TX6) (N := 2) rfl ui_X6 tyX6_ok nmX6 (by decide) rfl (tb wf_X6_9) rfl rfl rfl rfl dX6_init_9 (isK_ext (ext_N n_q1) ha) (fun H locs w => ?_)
  have hX := exm_w hX (fun _ _ h => h) (mwP_o (M := (mz M q1)) (a := r0) (k := 0) (x := some q1))
  refine lv_aload_n hx hb dX6_init_12 rfl (lv_at hl 0 rfl) ?_
  refine lv_iconst (v := 0) hx hb dX6_init_13 (by decide) ?_
  refine zpi X w 6 1 15 tyX6 (C := RX6) (T := TX6) (N := 2) rfl ui_X6 tyX6_ok nmX6 (by decide) rfl (tb wf_X6_15) rfl rfl dX6_init_14 (isK_ext (ext_N n_q1) ha) (fun H locs w => ?_)
  have hX := exm_w hX (fun _ _ h => h) (mwI_o (M := (mwP (mz M q1) r0 0 (some q1))) (a := r0) (k := 1) (x := (0 : Int32)))
  refine W.widen (k := 1) (n := 80) (by decide) (by decide) ?_
  exact zrN X hr hlk w ⟨q1, n_q1, rfl⟩ hX dX6_init_17
abbrev rm_X1_init : Room := { frames := 1, cells := 0, slots := 0, locals := 12 }
set_option maxHeartbeats 4000000 in
set_option maxRecDepth 100000 in
theorem c_X1_init (l : Launch) (D : va_G) (cy : Cyy) (G : Gg) (M : Mm) (r0 : Nat) (ha : isK G r0 1) : CN l yX1_init wz_X1_init rm_X1_init D cy G M r0 0 0 noX (ri_X1 G M r0) := by
  refine CN_of (cc := cX1_init) (nL := 1) (own := RX1) (by decide) rfl rfl rfl (Nat.le_of_ble_eq_true rfl) ?_
  intro p e s m args below meth c A ls X hr hlk hin hXX w hl
  have hx := X.1.1
  have hb := X.1.2.1
  have hX : exm G M r0 (G, M) := exm_rf G M r0
  refine lv_aload_n hx hb dX1_init_0 rfl (lv_at hl 0 rfl) ?_
  refine zobj X hl.1 (tb wo_X1_1) (tb wob) (tb woc) dX1_init_1 (by decide) (Nat.le_of_ble_eq_true rfl) ?_
  refine lv_aload_n hx hb dX1_init_4 rfl (lv_at hl 0 rfl) ?_
  refine lv_lconst (v := 0) hx hb dX1_init_5 (by decide) ?_
  refine zpl X w 1 0 7 tyX1 (C := RX1) (T := TX1) (N := 2) rfl ui_X1 tyX1_ok nmX1 (by decide) rfl (tb wf_X1_7) rfl rfl dX1_init_6 ha (fun H locs w => ?_)
  have hX := exm_w hX (fun _ _ h => h) (mwJ_o (M := M) (a := r0) (k := 0) (x := (0 : Int64)))
  refine lv_aload_n hx hb dX1_init_9 rfl (lv_at hl 0 rfl) ?_
  refine lv_lconst (v := 1) hx hb dX1_init_10 (by decide) ?_
  refine zpl X w 1 1 13 tyX1 (C := RX1) (T := TX1) (N := 2) rfl ui_X1 tyX1_ok nmX1 (by decide) rfl (tb wf_X1_13) rfl rfl dX1_init_11 ha (fun H locs w => ?_)
  have hX := exm_w hX (fun _ _ h => h) (mwJ_o (M := (mwJ M r0 0 (0 : Int64))) (a := r0) (k := 1) (x := (1 : Int64)))
  refine W.widen (k := 0) (n := 0) (by decide) (by decide) ?_
  exact zrN X hr hlk w rfl hX dX1_init_14
abbrev rm_X0_init : Room := { frames := 1, cells := 4, slots := 88, locals := 12 }
set_option maxHeartbeats 4000000 in
set_option maxRecDepth 100000 in
theorem c_X0_init (l : Launch) (D : va_G) (cy : Cyy) (G : Gg) (M : Mm) (r0 : Nat) (ha : isK G r0 0) : CN l yX0_init wz_X0_init rm_X0_init D cy G M r0 4 88 noX (ri_X0 G M r0) := by
  refine CN_of (cc := cX0_init) (nL := 1) (own := RX0) (by decide) rfl rfl rfl (Nat.le_of_ble_eq_true rfl) ?_
  intro p e s m args below meth c A ls X hr hlk hin hXX w hl
  have hx := X.1.1
  have hb := X.1.2.1
  have hX : exm G M r0 (G, M) := exm_rf G M r0
  refine lv_aload_n hx hb dX0_init_0 rfl (lv_at hl 0 rfl) ?_
  refine zobj X hl.1 (tb wo_X0_3) (tb wob) (tb woc) dX0_init_1 (by decide) (Nat.le_of_ble_eq_true rfl) ?_
  refine lv_aload_n hx hb dX0_init_4 rfl (lv_at hl 0 rfl) ?_
  refine lv_iconst (v := 0) hx hb dX0_init_5 (by decide) ?_
  refine zpi X w 0 0 9 tyX0 (C := RX0) (T := TX0) (N := 7) rfl ui_X0 tyX0_ok nmX0 (by decide) rfl (tb wf_X0_9) rfl rfl dX0_init_6 ha (fun H locs w => ?_)
  have hX := exm_w hX (fun _ _ h => h) (mwI_o (M := M) (a := r0) (k := 0) (x := (0 : Int32)))
  refine lv_aload_n hx hb dX0_init_9 rfl (lv_at hl 0 rfl) ?_
  refine lv_iconst (v := 1) hx hb dX0_init_10 (by decide) ?_
  refine zpi X w 0 1 15 tyX0 (C := RX0) (T := TX0) (N := 7) rfl ui_X0 tyX0_ok nmX0 (by decide) rfl (tb wf_X0_15) rfl rfl dX0_init_11 ha (fun H locs w => ?_)
  have hX := exm_w hX (fun _ _ h => h) (mwI_o (M := (mwI M r0 0 (0 : Int32))) (a := r0) (k := 1) (x := (1 : Int32)))
  refine lv_aload_n hx hb dX0_init_14 rfl (lv_at hl 0 rfl) ?_
  refine lv_bipush (v := 64) hx hb dX0_init_15 (by decide) ?_
  refine zAi X w (tb wai) 64 (by decide) (by decide) (by decide) (by decide) (by decide) dX0_init_17 (fun q1 H n_q1 w => ?_)
  have o_q1 : q1 ∉ G.1 := fun h => n_q1 ((hX.1 _ h).1)
  have hX := exm_N (k := 10) (n := 64) hX n_q1
  refine zpF X w hin 0 2 18 tyX0 (C := RX0) (T := TX0) (N := 7) rfl ui_X0 tyX0_ok nmX0 (by decide) rfl (tb wf_X0_18) rfl rfl rfl rfl dX0_init_19 (isK_ext (ext_N n_q1) ha) (fun H locs w => ?_)
  have hX := exm_w hX (fun _ _ h => h) (mwP_o (M := (mz (mwI (mwI M r0 0 (0 : Int32)) r0 1 (1 : Int32)) q1)) (a := r0) (k := 2) (x := some q1))
  refine lv_aload_n hx hb dX0_init_22 rfl (lv_at hl 0 rfl) ?_
  refine lv_bipush (v := 8) hx hb dX0_init_23 (by decide) ?_
  refine zAi X w (tb wai) 8 (by decide) (by decide) (by decide) (by decide) (by decide) dX0_init_25 (fun q2 H n_q2 w => ?_)
  have o_q2 : q2 ∉ G.1 := fun h => n_q2 ((hX.1 _ h).1)
  have hX := exm_N (k := 10) (n := 8) hX n_q2
  refine zpF X w hin 0 3 22 tyX0 (C := RX0) (T := TX0) (N := 7) rfl ui_X0 tyX0_ok nmX0 (by decide) rfl (tb wf_X0_22) rfl rfl rfl rfl dX0_init_27 (isK_ext (ext_N n_q2) (isK_ext (ext_N n_q1) ha)) (fun H locs w => ?_)
  have hX := exm_w hX (fun _ _ h => h) (mwP_o (M := (mz (mwP (mz (mwI (mwI M r0 0 (0 : Int32)) r0 1 (1 : Int32)) q1) r0 2 (some q1)) q2)) (a := r0) (k := 3) (x := some q2))
  refine lv_aload_n hx hb dX0_init_30 rfl (lv_at hl 0 rfl) ?_
  refine lv_bipush (v := 8) hx hb dX0_init_31 (by decide) ?_
  refine zAi X w (tb wai) 8 (by decide) (by decide) (by decide) (by decide) (by decide) dX0_init_33 (fun q3 H n_q3 w => ?_)
  have o_q3 : q3 ∉ G.1 := fun h => n_q3 ((hX.1 _ h).1)
  have hX := exm_N (k := 10) (n := 8) hX n_q3
  refine zpF X w hin 0 4 25 tyX0 (C := RX0) (T := TX0) (N := 7) rfl ui_X0 tyX0_ok nmX0 (by decide) rfl (tb wf_X0_25) rfl rfl rfl rfl dX0_init_35 (isK_ext (ext_N n_q3) (isK_ext (ext_N n_q2) (isK_ext (ext_N n_q1) ha))) (fun H locs w => ?_)
  have hX := exm_w hX (fun _ _ h => h) (mwP_o (M := (mz (mwP (mz (mwP (mz (mwI (mwI M r0 0 (0 : Int32)) r0 1 (1 : Int32)) q1) r0 2 (some q1)) q2) r0 3 (some q2)) q3)) (a := r0) (k := 4) (x := some q3))
  refine lv_aload_n hx hb dX0_init_38 rfl (lv_at hl 0 rfl) ?_
  refine lv_bipush (v := 8) hx hb dX0_init_39 (by decide) ?_
  refine zAl X w (tb wal) 8 (by decide) (by decide) (by decide) (by decide) (by decide) dX0_init_41 (fun q4 H n_q4 w => ?_)
  have o_q4 : q4 ∉ G.1 := fun h => n_q4 ((hX.1 _ h).1)
  have hX := exm_N (k := 11) (n := 8) hX n_q4
  refine zpF X w hin 0 5 28 tyX0 (C := RX0) (T := TX0) (N := 7) rfl ui_X0 tyX0_ok nmX0 (by decide) rfl (tb wf_X0_28) rfl rfl rfl rfl dX0_init_43 (isK_ext (ext_N n_q4) (isK_ext (ext_N n_q3) (isK_ext (ext_N n_q2) (isK_ext (ext_N n_q1) ha)))) (fun H locs w => ?_)
  have hX := exm_w hX (fun _ _ h => h) (mwP_o (M := (mz (mwP (mz (mwP (mz (mwP (mz (mwI (mwI M r0 0 (0 : Int32)) r0 1 (1 : Int32)) q1) r0 2 (some q1)) q2) r0 3 (some q2)) q3) r0 4 (some q3)) q4)) (a := r0) (k := 5) (x := some q4))
  refine lv_aload_n hx hb dX0_init_46 rfl (lv_at hl 0 rfl) ?_
  refine lv_lconst (v := 0) hx hb dX0_init_47 (by decide) ?_
  refine zpl X w 0 6 32 tyX0 (C := RX0) (T := TX0) (N := 7) rfl ui_X0 tyX0_ok nmX0 (by decide) rfl (tb wf_X0_32) rfl rfl dX0_init_48 (isK_ext (ext_N n_q4) (isK_ext (ext_N n_q3) (isK_ext (ext_N n_q2) (isK_ext (ext_N n_q1) ha)))) (fun H locs w => ?_)
  have hX := exm_w hX (fun _ _ h => h) (mwJ_o (M := (mwP (mz (mwP (mz (mwP (mz (mwP (mz (mwI (mwI M r0 0 (0 : Int32)) r0 1 (1 : Int32)) q1) r0 2 (some q1)) q2) r0 3 (some q2)) q3) r0 4 (some q3)) q4) r0 5 (some q4))) (a := r0) (k := 6) (x := (0 : Int64)))
  refine W.widen (k := 4) (n := 88) (by decide) (by decide) ?_
  exact zrN X hr hlk w ⟨q1, n_q1, q2, n_q2, q3, n_q3, q4, n_q4, rfl⟩ hX dX0_init_51
abbrev rm_X5_init : Room := { frames := 1, cells := 2, slots := 16, locals := 12 }
set_option maxHeartbeats 4000000 in
set_option maxRecDepth 100000 in
theorem c_X5_init (l : Launch) (D : va_G) (cy : Cyy) (G : Gg) (M : Mm) (r0 : Nat) (ha : isK G r0 5) : CN l yX5_init wz_X5_init rm_X5_init D cy G M r0 2 16 noX (ri_X5 G M r0) := by
  refine CN_of (cc := cX5_init) (nL := 1) (own := RX5) (by decide) rfl rfl rfl (Nat.le_of_ble_eq_true rfl) ?_
  intro p e s m args below meth c A ls X hr hlk hin hXX w hl
  have hx := X.1.1
  have hb := X.1.2.1
  have hX : exm G M r0 (G, M) := exm_rf G M r0
  refine lv_aload_n hx hb dX5_init_0 rfl (lv_at hl 0 rfl) ?_
  refine zobj X hl.1 (tb wo_X5_3) (tb wob) (tb woc) dX5_init_1 (by decide) (Nat.le_of_ble_eq_true rfl) ?_
  refine lv_aload_n hx hb dX5_init_4 rfl (lv_at hl 0 rfl) ?_
  refine lv_bipush (v := 8) hx hb dX5_init_5 (by decide) ?_
  refine zAi X w (tb wai) 8 (by decide) (by decide) (by decide) (by decide) (by decide) dX5_init_7 (fun q1 H n_q1 w => ?_)
  have o_q1 : q1 ∉ G.1 := fun h => n_q1 ((hX.1 _ h).1)
  have hX := exm_N (k := 10) (n := 8) hX n_q1
  refine zpF X w hin 5 0 9 tyX5 (C := RX5) (T := TX5) (N := 4) rfl ui_X5 tyX5_ok nmX5 (by decide) rfl (tb wf_X5_9) rfl rfl rfl rfl dX5_init_9 (isK_ext (ext_N n_q1) ha) (fun H locs w => ?_)
  have hX := exm_w hX (fun _ _ h => h) (mwP_o (M := (mz M q1)) (a := r0) (k := 0) (x := some q1))
  refine lv_aload_n hx hb dX5_init_12 rfl (lv_at hl 0 rfl) ?_
  refine lv_bipush (v := 8) hx hb dX5_init_13 (by decide) ?_
  refine zAi X w (tb wai) 8 (by decide) (by decide) (by decide) (by decide) (by decide) dX5_init_15 (fun q2 H n_q2 w => ?_)
  have o_q2 : q2 ∉ G.1 := fun h => n_q2 ((hX.1 _ h).1)
  have hX := exm_N (k := 10) (n := 8) hX n_q2
  refine zpF X w hin 5 1 15 tyX5 (C := RX5) (T := TX5) (N := 4) rfl ui_X5 tyX5_ok nmX5 (by decide) rfl (tb wf_X5_15) rfl rfl rfl rfl dX5_init_17 (isK_ext (ext_N n_q2) (isK_ext (ext_N n_q1) ha)) (fun H locs w => ?_)
  have hX := exm_w hX (fun _ _ h => h) (mwP_o (M := (mz (mwP (mz M q1) r0 0 (some q1)) q2)) (a := r0) (k := 1) (x := some q2))
  refine lv_aload_n hx hb dX5_init_20 rfl (lv_at hl 0 rfl) ?_
  refine lv_iconst (v := 0) hx hb dX5_init_21 (by decide) ?_
  refine zpi X w 5 2 18 tyX5 (C := RX5) (T := TX5) (N := 4) rfl ui_X5 tyX5_ok nmX5 (by decide) rfl (tb wf_X5_18) rfl rfl dX5_init_22 (isK_ext (ext_N n_q2) (isK_ext (ext_N n_q1) ha)) (fun H locs w => ?_)
  have hX := exm_w hX (fun _ _ h => h) (mwI_o (M := (mwP (mz (mwP (mz M q1) r0 0 (some q1)) q2) r0 1 (some q2))) (a := r0) (k := 2) (x := (0 : Int32)))
  refine lv_aload_n hx hb dX5_init_25 rfl (lv_at hl 0 rfl) ?_
  refine lv_iconst (v := 0) hx hb dX5_init_26 (by decide) ?_
  refine zpi X w 5 3 22 tyX5 (C := RX5) (T := TX5) (N := 4) rfl ui_X5 tyX5_ok nmX5 (by decide) rfl (tb wf_X5_22) rfl rfl dX5_init_27 (isK_ext (ext_N n_q2) (isK_ext (ext_N n_q1) ha)) (fun H locs w => ?_)
  have hX := exm_w hX (fun _ _ h => h) (mwI_o (M := (mwI (mwP (mz (mwP (mz M q1) r0 0 (some q1)) q2) r0 1 (some q2)) r0 2 (0 : Int32))) (a := r0) (k := 3) (x := (0 : Int32)))
  refine W.widen (k := 2) (n := 16) (by decide) (by decide) ?_
  exact zrN X hr hlk w ⟨q1, n_q1, q2, n_q2, rfl⟩ hX dX5_init_30
abbrev rm_X7_init : Room := { frames := 1, cells := 2, slots := 72, locals := 12 }
set_option maxHeartbeats 4000000 in
set_option maxRecDepth 100000 in
theorem c_X7_init (l : Launch) (D : va_G) (cy : Cyy) (G : Gg) (M : Mm) (r0 : Nat) (ha : isK G r0 7) : CN l yX7_init wz_X7_init rm_X7_init D cy G M r0 2 72 noX (ri_X7 G M r0) := by
  refine CN_of (cc := cX7_init) (nL := 1) (own := RX7) (by decide) rfl rfl rfl (Nat.le_of_ble_eq_true rfl) ?_
  intro p e s m args below meth c A ls X hr hlk hin hXX w hl
  have hx := X.1.1
  have hb := X.1.2.1
  have hX : exm G M r0 (G, M) := exm_rf G M r0
  refine lv_aload_n hx hb dX7_init_0 rfl (lv_at hl 0 rfl) ?_
  refine zobj X hl.1 (tb wo_X7_3) (tb wob) (tb woc) dX7_init_1 (by decide) (Nat.le_of_ble_eq_true rfl) ?_
  refine lv_aload_n hx hb dX7_init_4 rfl (lv_at hl 0 rfl) ?_
  refine lv_bipush (v := 64) hx hb dX7_init_5 (by decide) ?_
  refine zAl X w (tb wal) 64 (by decide) (by decide) (by decide) (by decide) (by decide) dX7_init_7 (fun q1 H n_q1 w => ?_)
  have o_q1 : q1 ∉ G.1 := fun h => n_q1 ((hX.1 _ h).1)
  have hX := exm_N (k := 11) (n := 64) hX n_q1
  refine zpF X w hin 7 0 9 tyX7 (C := RX7) (T := TX7) (N := 3) rfl ui_X7 tyX7_ok nmX7 (by decide) rfl (tb wf_X7_9) rfl rfl rfl rfl dX7_init_9 (isK_ext (ext_N n_q1) ha) (fun H locs w => ?_)
  have hX := exm_w hX (fun _ _ h => h) (mwP_o (M := (mz M q1)) (a := r0) (k := 0) (x := some q1))
  refine lv_aload_n hx hb dX7_init_12 rfl (lv_at hl 0 rfl) ?_
  refine lv_bipush (v := 8) hx hb dX7_init_13 (by decide) ?_
  refine zAl X w (tb wal) 8 (by decide) (by decide) (by decide) (by decide) (by decide) dX7_init_15 (fun q2 H n_q2 w => ?_)
  have o_q2 : q2 ∉ G.1 := fun h => n_q2 ((hX.1 _ h).1)
  have hX := exm_N (k := 11) (n := 8) hX n_q2
  refine zpF X w hin 7 1 15 tyX7 (C := RX7) (T := TX7) (N := 3) rfl ui_X7 tyX7_ok nmX7 (by decide) rfl (tb wf_X7_15) rfl rfl rfl rfl dX7_init_17 (isK_ext (ext_N n_q2) (isK_ext (ext_N n_q1) ha)) (fun H locs w => ?_)
  have hX := exm_w hX (fun _ _ h => h) (mwP_o (M := (mz (mwP (mz M q1) r0 0 (some q1)) q2)) (a := r0) (k := 1) (x := some q2))
  refine lv_aload_n hx hb dX7_init_20 rfl (lv_at hl 0 rfl) ?_
  refine lv_lconst (v := 1) hx hb dX7_init_21 (by decide) ?_
  refine zpl X w 7 2 18 tyX7 (C := RX7) (T := TX7) (N := 3) rfl ui_X7 tyX7_ok nmX7 (by decide) rfl (tb wf_X7_18) rfl rfl dX7_init_22 (isK_ext (ext_N n_q2) (isK_ext (ext_N n_q1) ha)) (fun H locs w => ?_)
  have hX := exm_w hX (fun _ _ h => h) (mwJ_o (M := (mwP (mz (mwP (mz M q1) r0 0 (some q1)) q2) r0 1 (some q2))) (a := r0) (k := 2) (x := (1 : Int64)))
  refine W.widen (k := 2) (n := 72) (by decide) (by decide) ?_
  exact zrN X hr hlk w ⟨q1, n_q1, q2, n_q2, rfl⟩ hX dX7_init_25
abbrev rm_X3_init : Room := { frames := 1, cells := 2, slots := 320, locals := 12 }
set_option maxHeartbeats 4000000 in
set_option maxRecDepth 100000 in
theorem c_X3_init (l : Launch) (D : va_G) (cy : Cyy) (G : Gg) (M : Mm) (r0 : Nat) (ha : isK G r0 3) : CN l yX3_init wz_X3_init rm_X3_init D cy G M r0 2 320 noX (ri_X3 G M r0) := by
  refine CN_of (cc := cX3_init) (nL := 1) (own := RX3) (by decide) rfl rfl rfl (Nat.le_of_ble_eq_true rfl) ?_
  intro p e s m args below meth c A ls X hr hlk hin hXX w hl
  have hx := X.1.1
  have hb := X.1.2.1
  have hX : exm G M r0 (G, M) := exm_rf G M r0
  refine lv_aload_n hx hb dX3_init_0 rfl (lv_at hl 0 rfl) ?_
  refine zobj X hl.1 (tb wo_X3_3) (tb wob) (tb woc) dX3_init_1 (by decide) (Nat.le_of_ble_eq_true rfl) ?_
  refine lv_aload_n hx hb dX3_init_4 rfl (lv_at hl 0 rfl) ?_
  refine lv_bipush (v := 64) hx hb dX3_init_5 (by decide) ?_
  refine zAl X w (tb wal) 64 (by decide) (by decide) (by decide) (by decide) (by decide) dX3_init_7 (fun q1 H n_q1 w => ?_)
  have o_q1 : q1 ∉ G.1 := fun h => n_q1 ((hX.1 _ h).1)
  have hX := exm_N (k := 11) (n := 64) hX n_q1
  refine zpF X w hin 3 0 9 tyX3 (C := RX3) (T := TX3) (N := 3) rfl ui_X3 tyX3_ok nmX3 (by decide) rfl (tb wf_X3_9) rfl rfl rfl rfl dX3_init_9 (isK_ext (ext_N n_q1) ha) (fun H locs w => ?_)
  have hX := exm_w hX (fun _ _ h => h) (mwP_o (M := (mz M q1)) (a := r0) (k := 0) (x := some q1))
  refine lv_aload_n hx hb dX3_init_12 rfl (lv_at hl 0 rfl) ?_
  refine lv_sipush (v := 256) hx hb dX3_init_13 (by decide) ?_
  refine zAl X w (tb wal) 256 (by decide) (by decide) (by decide) (by decide) (by decide) dX3_init_16 (fun q2 H n_q2 w => ?_)
  have o_q2 : q2 ∉ G.1 := fun h => n_q2 ((hX.1 _ h).1)
  have hX := exm_N (k := 11) (n := 256) hX n_q2
  refine zpF X w hin 3 1 15 tyX3 (C := RX3) (T := TX3) (N := 3) rfl ui_X3 tyX3_ok nmX3 (by decide) rfl (tb wf_X3_15) rfl rfl rfl rfl dX3_init_18 (isK_ext (ext_N n_q2) (isK_ext (ext_N n_q1) ha)) (fun H locs w => ?_)
  have hX := exm_w hX (fun _ _ h => h) (mwP_o (M := (mz (mwP (mz M q1) r0 0 (some q1)) q2)) (a := r0) (k := 1) (x := some q2))
  refine lv_aload_n hx hb dX3_init_21 rfl (lv_at hl 0 rfl) ?_
  refine lv_iconst (v := 0) hx hb dX3_init_22 (by decide) ?_
  refine zpi X w 3 2 18 tyX3 (C := RX3) (T := TX3) (N := 3) rfl ui_X3 tyX3_ok nmX3 (by decide) rfl (tb wf_X3_18) rfl rfl dX3_init_23 (isK_ext (ext_N n_q2) (isK_ext (ext_N n_q1) ha)) (fun H locs w => ?_)
  have hX := exm_w hX (fun _ _ h => h) (mwI_o (M := (mwP (mz (mwP (mz M q1) r0 0 (some q1)) q2) r0 1 (some q2))) (a := r0) (k := 2) (x := (0 : Int32)))
  refine W.widen (k := 2) (n := 320) (by decide) (by decide) ?_
  exact zrN X hr hlk w ⟨q1, n_q1, q2, n_q2, rfl⟩ hX dX3_init_26
abbrev rm_X2_init : Room := { frames := 2, cells := 4, slots := 331, locals := 32 }
set_option maxHeartbeats 4000000 in
set_option maxRecDepth 100000 in
theorem c_X2_init (l : Launch) (D : va_G) (cy : Cyy) (G : Gg) (M : Mm) (r0 : Nat) (ha : isK G r0 2) : CN l yX2_init wz_X2_init rm_X2_init D cy G M r0 4 331 noX (ri_X2 G M r0) := by
  refine CN_of (cc := cX2_init) (nL := 1) (own := RX2) (by decide) rfl rfl rfl (Nat.le_of_ble_eq_true rfl) ?_
  intro p e s m args below meth c A ls X hr hlk hin hXX w hl
  have hx := X.1.1
  have hb := X.1.2.1
  have hX : exm G M r0 (G, M) := exm_rf G M r0
  refine lv_aload_n hx hb dX2_init_0 rfl (lv_at hl 0 rfl) ?_
  refine zobj X hl.1 (tb wo_X2_3) (tb wob) (tb woc) dX2_init_1 (by decide) (Nat.le_of_ble_eq_true rfl) ?_
  refine lv_aload_n hx hb dX2_init_4 rfl (lv_at hl 0 rfl) ?_
  refine zAo X w 3 tyX3 (C := RX3) (T := TX3) (N := 3) rfl ui_X3 tyX3_ok (tb wl_X2_9) (tb wq_X3) (tb wn_X3) fz_X3 (by decide) (by decide) dX2_init_5 (fun q1 H n_q1 w => ?_)
  have o_q1 : q1 ∉ G.1 := fun h => n_q1 ((hX.1 _ h).1)
  have hX := exm_N (k := 3) (n := 0) hX n_q1
  refine lv_dup hx hb dX2_init_8 rfl ?_
  refine zI X w (n := 0) (rest := [.ref q1, .ref r0]) (XX := noX) (c_X3_init l D cy (gN G q1 3 0) (mz M q1) q1 isK_N) (fun _ _ => trivial) (fun _ _ _ _ h => h) (gzN wc_X3_init) rfl rfl rfl (tb wn_X3) (tb wm_X2_11) (tb wi_X3_init) rfl (by decide +kernel) (by decide) rfl rfl hl.1 (Nat.le_of_ble_eq_true rfl) dX2_init_9 (by decide) (fun u2 H locs hp2 hm2 w => ?_)
  have hX := exm_C hX hm2 o_q1
  refine zpF X w hin 2 0 12 tyX2 (C := RX2) (T := TX2) (N := 2) rfl ui_X2 tyX2_ok nmX2 (by decide) rfl (tb wf_X2_12) rfl rfl rfl rfl dX2_init_12 (isK_ext hm2.1 (isK_ext (ext_N n_q1) ha)) (fun H locs w => ?_)
  have hX := exm_w hX (fun _ _ h => h) (mwP_o (M := u2.2) (a := r0) (k := 0) (x := some q1))
  refine lv_aload_n hx hb dX2_init_15 rfl (lv_at hl 0 rfl) ?_
  refine lv_bipush (v := 8) hx hb dX2_init_16 (by decide) ?_
  refine zAl X w (tb wal) 8 (by decide) (by decide) (by decide) (by decide) (by decide) dX2_init_18 (fun q3 H n_q3 w => ?_)
  have o_q3 : q3 ∉ G.1 := fun h => n_q3 ((hX.1 _ h).1)
  have hX := exm_N (k := 11) (n := 8) hX n_q3
  refine zpF X w hin 2 1 18 tyX2 (C := RX2) (T := TX2) (N := 2) rfl ui_X2 tyX2_ok nmX2 (by decide) rfl (tb wf_X2_18) rfl rfl rfl rfl dX2_init_20 (isK_ext (ext_N n_q3) (isK_ext hm2.1 (isK_ext (ext_N n_q1) ha))) (fun H locs w => ?_)
  have hX := exm_w hX (fun _ _ h => h) (mwP_o (M := (mz (mwP u2.2 r0 0 (some q1)) q3)) (a := r0) (k := 1) (x := some q3))
  refine W.widen (k := 4) (n := 331) (by decide) (by decide) ?_
  exact zrN X hr hlk w ⟨q1, n_q1, u2, hp2, q3, n_q3, rfl⟩ hX dX2_init_23
abbrev rm_X4_init : Room := { frames := 1, cells := 0, slots := 0, locals := 12 }
set_option maxHeartbeats 4000000 in
set_option maxRecDepth 100000 in
theorem c_X4_init (l : Launch) (D : va_G) (cy : Cyy) (G : Gg) (M : Mm) (r0 : Nat) (ha : isK G r0 4) : CN l yX4_init wz_X4_init rm_X4_init D cy G M r0 0 0 noX (ri_X4 G M r0) := by
  refine CN_of (cc := cX4_init) (nL := 1) (own := RX4) (by decide) rfl rfl rfl (Nat.le_of_ble_eq_true rfl) ?_
  intro p e s m args below meth c A ls X hr hlk hin hXX w hl
  have hx := X.1.1
  have hb := X.1.2.1
  have hX : exm G M r0 (G, M) := exm_rf G M r0
  refine lv_aload_n hx hb dX4_init_0 rfl (lv_at hl 0 rfl) ?_
  refine zobj X hl.1 (tb wo_X4_1) (tb wob) (tb woc) dX4_init_1 (by decide) (Nat.le_of_ble_eq_true rfl) ?_
  refine lv_aload_n hx hb dX4_init_4 rfl (lv_at hl 0 rfl) ?_
  refine lv_iconst (v := 0) hx hb dX4_init_5 (by decide) ?_
  refine zpi X w 4 0 7 tyX4 (C := RX4) (T := TX4) (N := 3) rfl ui_X4 tyX4_ok nmX4 (by decide) rfl (tb wf_X4_7) rfl rfl dX4_init_6 ha (fun H locs w => ?_)
  have hX := exm_w hX (fun _ _ h => h) (mwI_o (M := M) (a := r0) (k := 0) (x := (0 : Int32)))
  refine lv_aload_n hx hb dX4_init_9 rfl (lv_at hl 0 rfl) ?_
  refine lv_lconst (v := 0) hx hb dX4_init_10 (by decide) ?_
  refine zpl X w 4 1 13 tyX4 (C := RX4) (T := TX4) (N := 3) rfl ui_X4 tyX4_ok nmX4 (by decide) rfl (tb wf_X4_13) rfl rfl dX4_init_11 ha (fun H locs w => ?_)
  have hX := exm_w hX (fun _ _ h => h) (mwJ_o (M := (mwI M r0 0 (0 : Int32))) (a := r0) (k := 1) (x := (0 : Int64)))
  refine lv_aload_n hx hb dX4_init_14 rfl (lv_at hl 0 rfl) ?_
  refine lv_lconst (v := 1) hx hb dX4_init_15 (by decide) ?_
  refine zpl X w 4 2 17 tyX4 (C := RX4) (T := TX4) (N := 3) rfl ui_X4 tyX4_ok nmX4 (by decide) rfl (tb wf_X4_17) rfl rfl dX4_init_16 ha (fun H locs w => ?_)
  have hX := exm_w hX (fun _ _ h => h) (mwJ_o (M := (mwJ (mwI M r0 0 (0 : Int32)) r0 1 (0 : Int64))) (a := r0) (k := 2) (x := (1 : Int64)))
  refine W.widen (k := 0) (n := 0) (by decide) (by decide) ?_
  exact zrN X hr hlk w rfl hX dX4_init_19
abbrev rm_X8_init : Room := { frames := 3, cells := 52, slots := 1194, locals := 52 }
set_option maxHeartbeats 4000000 in
set_option maxRecDepth 100000 in
theorem c_X8_init (l : Launch) (D : va_G) (cy : Cyy) (G : Gg) (M : Mm) (r0 : Nat) (ha : isK G r0 8) : CN l yX8_init wz_X8_init rm_X8_init D cy G M r0 52 1194 AOw (ri_X8 G M r0) := by
  refine CN_of (cc := cX8_init) (nL := 2) (own := RX8) (by decide) rfl rfl rfl (Nat.le_of_ble_eq_true rfl) ?_
  intro p e s m args below meth c A ls X hr hlk hin hXX w hl
  have hx := X.1.1
  have hb := X.1.2.1
  have hX : exm G M r0 (G, M) := exm_rf G M r0
  refine lv_aload_n hx hb dX8_init_0 rfl (lv_at hl 0 rfl) ?_
  refine zobj X hl.1 (tb wo_X8_1) (tb wob) (tb woc) dX8_init_1 (by decide) (Nat.le_of_ble_eq_true rfl) ?_
  refine lv_aload_n hx hb dX8_init_4 rfl (lv_at hl 0 rfl) ?_
  refine zAo X w 6 tyX6 (C := RX6) (T := TX6) (N := 2) rfl ui_X6 tyX6_ok (tb wl_X8_7) (tb wq_X6) (tb wn_X6) fz_X6 (by decide) (by decide) dX8_init_5 (fun q1 H n_q1 w => ?_)
  have o_q1 : q1 ∉ G.1 := fun h => n_q1 ((hX.1 _ h).1)
  have hX := exm_N (k := 6) (n := 0) hX n_q1
  refine lv_dup hx hb dX8_init_8 rfl ?_
  refine zI X w (n := 0) (rest := [.ref q1, .ref r0]) (XX := noX) (c_X6_init l D cy (gN G q1 6 0) (mz M q1) q1 isK_N) (fun _ _ => trivial) (fun _ _ _ _ h => h) (gzN wc_X6_init) rfl rfl rfl (tb wn_X6) (tb wm_X8_9) (tb wi_X6_init) rfl (by decide +kernel) (by decide) rfl rfl hl.1 (Nat.le_of_ble_eq_true rfl) dX8_init_9 (by decide) (fun u2 H locs hp2 hm2 w => ?_)
  have hX := exm_C hX hm2 o_q1
  refine zpF X w hin 8 0 10 tyX8 (C := RX8) (T := TX8) (N := 10) rfl ui_X8 tyX8_ok nmX8 (by decide) rfl (tb wf_X8_10) rfl rfl rfl rfl dX8_init_12 (isK_ext hm2.1 (isK_ext (ext_N n_q1) ha)) (fun H locs w => ?_)
  have hX := exm_w hX (fun _ _ h => h) (mwP_o (M := u2.2) (a := r0) (k := 0) (x := some q1))
  refine lv_aload_n hx hb dX8_init_15 rfl (lv_at hl 0 rfl) ?_
  refine lv_bipush (v := 8) hx hb dX8_init_16 (by decide) ?_
  refine zAi X w (tb wai) 8 (by decide) (by decide) (by decide) (by decide) (by decide) dX8_init_18 (fun q3 H n_q3 w => ?_)
  have o_q3 : q3 ∉ G.1 := fun h => n_q3 ((hX.1 _ h).1)
  have hX := exm_N (k := 10) (n := 8) hX n_q3
  refine zpF X w hin 8 1 16 tyX8 (C := RX8) (T := TX8) (N := 10) rfl ui_X8 tyX8_ok nmX8 (by decide) rfl (tb wf_X8_16) rfl rfl rfl rfl dX8_init_20 (isK_ext (ext_N n_q3) (isK_ext hm2.1 (isK_ext (ext_N n_q1) ha))) (fun H locs w => ?_)
  have hX := exm_w hX (fun _ _ h => h) (mwP_o (M := (mz (mwP u2.2 r0 0 (some q1)) q3)) (a := r0) (k := 1) (x := some q3))
  refine lv_aload_n hx hb dX8_init_23 rfl (lv_at hl 0 rfl) ?_
  refine lv_iconst (v := 0) hx hb dX8_init_24 (by decide) ?_
  refine zpi X w 8 2 20 tyX8 (C := RX8) (T := TX8) (N := 10) rfl ui_X8 tyX8_ok nmX8 (by decide) rfl (tb wf_X8_20) rfl rfl dX8_init_25 (isK_ext (ext_N n_q3) (isK_ext hm2.1 (isK_ext (ext_N n_q1) ha))) (fun H locs w => ?_)
  have hX := exm_w hX (fun _ _ h => h) (mwI_o (M := (mwP (mz (mwP u2.2 r0 0 (some q1)) q3) r0 1 (some q3))) (a := r0) (k := 2) (x := (0 : Int32)))
  refine lv_aload_n hx hb dX8_init_28 rfl (lv_at hl 0 rfl) ?_
  refine lv_bipush (v := 6) hx hb dX8_init_29 (by decide) ?_
  refine zAr X w (tb wl_X8_24) hXX 6 (by decide) (by decide) (by decide) (by decide) (by decide) dX8_init_31 (fun q4 H n_q4 w => ?_)
  have o_q4 : q4 ∉ G.1 := fun h => n_q4 ((hX.1 _ h).1)
  have hX := exm_N (k := 12) (n := 6) hX n_q4
  refine zpF X w hin 8 3 26 tyX8 (C := RX8) (T := TX8) (N := 10) rfl ui_X8 tyX8_ok nmX8 (by decide) rfl (tb wf_X8_26) rfl rfl rfl rfl dX8_init_34 (isK_ext (ext_N n_q4) (isK_ext (ext_N n_q3) (isK_ext hm2.1 (isK_ext (ext_N n_q1) ha)))) (fun H locs w => ?_)
  have hX := exm_w hX (fun _ _ h => h) (mwP_o (M := (mz (mwI (mwP (mz (mwP u2.2 r0 0 (some q1)) q3) r0 1 (some q3)) r0 2 (0 : Int32)) q4)) (a := r0) (k := 3) (x := some q4))
  have g0 : (mwP (mz (mwI (mwP (mz (mwP u2.2 r0 0 (some q1)) q3) r0 1 (some q3)) r0 2 (0 : Int32)) q4) r0 3 (some q4)).2.2 r0 3 = some q4 := mwP_get
  refine lv_iconst (v := 0) hx hb dX8_init_37 (by decide) ?_
  refine lv_istore_n (lv' := [(1, .int (0 : Int32)), (0, .ref r0)]) hx hb dX8_init_38 rfl hl (by decide) rfl (fun ls hl => ?_)
  refine lv_iload_n hx hb dX8_init_39 rfl (lv_at hl 0 rfl) ?_
  refine lv_bipush (v := 6) hx hb dX8_init_40 (by decide) ?_
  refine lv_icmp_ge (tgt := 64) hx hb dX8_init_42 (by decide) (fun c => absurd c (by decide)) (fun _ => ?_)
  refine lv_aload_n hx hb dX8_init_45 rfl (lv_at hl 1 rfl) ?_
  refine zgr X w 8 3 26 (C := RX8) (T := TX8) (N := 10) rfl ui_X8 (by decide) rfl (tb wf_X8_26) dX8_init_46 (isK_ext (ext_N n_q4) (isK_ext (ext_N n_q3) (isK_ext hm2.1 (isK_ext (ext_N n_q1) ha)))) g0 ?_
  refine lv_iload_n hx hb dX8_init_49 rfl (lv_at hl 0 rfl) ?_
  refine zAo X w 0 tyX0 (C := RX0) (T := TX0) (N := 7) rfl ui_X0 tyX0_ok (tb wl_X8_24) (tb wq_X0) (tb wn_X0) fz_X0 (by decide) (by decide) dX8_init_50 (fun q5 H n_q5 w => ?_)
  have o_q5 : q5 ∉ G.1 := fun h => n_q5 ((hX.1 _ h).1)
  have hX := exm_N (k := 0) (n := 0) hX n_q5
  have g5_r0_3 : (mz (mwP (mz (mwI (mwP (mz (mwP u2.2 r0 0 (some q1)) q3) r0 1 (some q3)) r0 2 (0 : Int32)) q4) r0 3 (some q4)) q5).2.2 r0 3 = some q4 := mz_ne g0 (fun e => o_q5 (e ▸ ha.1))
  refine lv_dup hx hb dX8_init_53 rfl ?_
  refine zI X w (n := 0) (rest := [.ref q5, .int (0 : Int32), .ref q4]) (XX := noX) (c_X0_init l D cy (gN (gN (gN u2.1 q3 10 8) q4 12 6) q5 0 0) (mz (mwP (mz (mwI (mwP (mz (mwP u2.2 r0 0 (some q1)) q3) r0 1 (some q3)) r0 2 (0 : Int32)) q4) r0 3 (some q4)) q5) q5 isK_N) (fun _ _ => trivial) (fun _ _ _ _ h => h) (gzN wc_X0_init) rfl rfl rfl (tb wn_X0) (tb wm_X8_30) (tb wi_X0_init) rfl (by decide +kernel) (by decide) rfl rfl hl.1 (Nat.le_of_ble_eq_true rfl) dX8_init_54 (by decide) (fun u6 H locs hp6 hm6 w => ?_)
  have hX := exm_C hX hm6 o_q5
  have g6_r0_3 : u6.2.2.2 r0 3 = some q4 := sm_get (hm6.2 r0 (isK_ext (ext_N n_q5) (isK_ext (ext_N n_q4) (isK_ext (ext_N n_q3) (isK_ext hm2.1 (isK_ext (ext_N n_q1) ha))))).1 (fun e => o_q5 (e ▸ ha.1))) g5_r0_3
  have le7 : u6.1.2.2 q4 = 6 := ((hm6.1 _ (isK_ext (ext_N n_q5) isK_N).1).2.2.trans (((ext_N n_q5) _ isK_N.1).2.2.trans (va_up_self _ _ _)))
  refine zsr X w dX8_init_57 (isK_ext hm6.1 (isK_ext (ext_N n_q5) isK_N)) (by rw [le7]; decide) (isK_ext hm6.1 isK_N) (fun H locs w => ?_)
  have hX := exm_w (b := q4) hX (fun z hz _ e => o_q4 (e ▸ hz)) (mwP_o (M := u6.2) (a := q4) (k := (Int32.toNatClampNeg (0 : Int32))) (x := some q5))
  have g8_r0_3 : (mwP u6.2 q4 (Int32.toNatClampNeg (0 : Int32)) (some q5)).2.2 r0 3 = some q4 := mwP_ne g6_r0_3 (fun e => o_q4 (e ▸ ha.1))
  refine lv_iinc (v := ((0 : Int32) + 1)) (lv' := [(1, .int ((0 : Int32) + 1)), (0, .ref r0)]) hx hb dX8_init_58 hl (k := 0) rfl rfl (by decide) rfl (fun ls hl => ?_)
  refine lv_goto (tgt := 39) hx hb dX8_init_61 (by decide) ?_
  refine lv_iload_n hx hb dX8_init_39 rfl (lv_at hl 0 rfl) ?_
  refine lv_bipush (v := 6) hx hb dX8_init_40 (by decide) ?_
  refine lv_icmp_ge (tgt := 64) hx hb dX8_init_42 (by decide) (fun c => absurd c (by decide)) (fun _ => ?_)
  refine lv_aload_n hx hb dX8_init_45 rfl (lv_at hl 1 rfl) ?_
  refine zgr X w 8 3 26 (C := RX8) (T := TX8) (N := 10) rfl ui_X8 (by decide) rfl (tb wf_X8_26) dX8_init_46 (isK_ext hm6.1 (isK_ext (ext_N n_q5) (isK_ext (ext_N n_q4) (isK_ext (ext_N n_q3) (isK_ext hm2.1 (isK_ext (ext_N n_q1) ha)))))) g8_r0_3 ?_
  refine lv_iload_n hx hb dX8_init_49 rfl (lv_at hl 0 rfl) ?_
  refine zAo X w 0 tyX0 (C := RX0) (T := TX0) (N := 7) rfl ui_X0 tyX0_ok (tb wl_X8_24) (tb wq_X0) (tb wn_X0) fz_X0 (by decide) (by decide) dX8_init_50 (fun q9 H n_q9 w => ?_)
  have o_q9 : q9 ∉ G.1 := fun h => n_q9 ((hX.1 _ h).1)
  have hX := exm_N (k := 0) (n := 0) hX n_q9
  have g9_r0_3 : (mz (mwP u6.2 q4 (Int32.toNatClampNeg (0 : Int32)) (some q5)) q9).2.2 r0 3 = some q4 := mz_ne g8_r0_3 (fun e => o_q9 (e ▸ ha.1))
  refine lv_dup hx hb dX8_init_53 rfl ?_
  refine zI X w (n := 0) (rest := [.ref q9, .int ((0 : Int32) + 1), .ref q4]) (XX := noX) (c_X0_init l D cy (gN u6.1 q9 0 0) (mz (mwP u6.2 q4 (Int32.toNatClampNeg (0 : Int32)) (some q5)) q9) q9 isK_N) (fun _ _ => trivial) (fun _ _ _ _ h => h) (gzN wc_X0_init) rfl rfl rfl (tb wn_X0) (tb wm_X8_30) (tb wi_X0_init) rfl (by decide +kernel) (by decide) rfl rfl hl.1 (Nat.le_of_ble_eq_true rfl) dX8_init_54 (by decide) (fun u10 H locs hp10 hm10 w => ?_)
  have hX := exm_C hX hm10 o_q9
  have g10_r0_3 : u10.2.2.2 r0 3 = some q4 := sm_get (hm10.2 r0 (isK_ext (ext_N n_q9) (isK_ext hm6.1 (isK_ext (ext_N n_q5) (isK_ext (ext_N n_q4) (isK_ext (ext_N n_q3) (isK_ext hm2.1 (isK_ext (ext_N n_q1) ha))))))).1 (fun e => o_q9 (e ▸ ha.1))) g9_r0_3
  have le11 : u10.1.2.2 q4 = 6 := ((hm10.1 _ (isK_ext (ext_N n_q9) (isK_ext hm6.1 (isK_ext (ext_N n_q5) isK_N))).1).2.2.trans (((ext_N n_q9) _ (isK_ext hm6.1 (isK_ext (ext_N n_q5) isK_N)).1).2.2.trans ((hm6.1 _ (isK_ext (ext_N n_q5) isK_N).1).2.2.trans (((ext_N n_q5) _ isK_N.1).2.2.trans (va_up_self _ _ _)))))
  refine zsr X w dX8_init_57 (isK_ext hm10.1 (isK_ext (ext_N n_q9) (isK_ext hm6.1 (isK_ext (ext_N n_q5) isK_N)))) (by rw [le11]; decide) (isK_ext hm10.1 isK_N) (fun H locs w => ?_)
  have hX := exm_w (b := q4) hX (fun z hz _ e => o_q4 (e ▸ hz)) (mwP_o (M := u10.2) (a := q4) (k := (Int32.toNatClampNeg ((0 : Int32) + 1))) (x := some q9))
  have g12_r0_3 : (mwP u10.2 q4 (Int32.toNatClampNeg ((0 : Int32) + 1)) (some q9)).2.2 r0 3 = some q4 := mwP_ne g10_r0_3 (fun e => o_q4 (e ▸ ha.1))
  refine lv_iinc (v := (((0 : Int32) + 1) + 1)) (lv' := [(1, .int (((0 : Int32) + 1) + 1)), (0, .ref r0)]) hx hb dX8_init_58 hl (k := 0) rfl rfl (by decide) rfl (fun ls hl => ?_)
  refine lv_goto (tgt := 39) hx hb dX8_init_61 (by decide) ?_
  refine lv_iload_n hx hb dX8_init_39 rfl (lv_at hl 0 rfl) ?_
  refine lv_bipush (v := 6) hx hb dX8_init_40 (by decide) ?_
  refine lv_icmp_ge (tgt := 64) hx hb dX8_init_42 (by decide) (fun c => absurd c (by decide)) (fun _ => ?_)
  refine lv_aload_n hx hb dX8_init_45 rfl (lv_at hl 1 rfl) ?_
  refine zgr X w 8 3 26 (C := RX8) (T := TX8) (N := 10) rfl ui_X8 (by decide) rfl (tb wf_X8_26) dX8_init_46 (isK_ext hm10.1 (isK_ext (ext_N n_q9) (isK_ext hm6.1 (isK_ext (ext_N n_q5) (isK_ext (ext_N n_q4) (isK_ext (ext_N n_q3) (isK_ext hm2.1 (isK_ext (ext_N n_q1) ha)))))))) g12_r0_3 ?_
  refine lv_iload_n hx hb dX8_init_49 rfl (lv_at hl 0 rfl) ?_
  refine zAo X w 0 tyX0 (C := RX0) (T := TX0) (N := 7) rfl ui_X0 tyX0_ok (tb wl_X8_24) (tb wq_X0) (tb wn_X0) fz_X0 (by decide) (by decide) dX8_init_50 (fun q13 H n_q13 w => ?_)
  have o_q13 : q13 ∉ G.1 := fun h => n_q13 ((hX.1 _ h).1)
  have hX := exm_N (k := 0) (n := 0) hX n_q13
  have g13_r0_3 : (mz (mwP u10.2 q4 (Int32.toNatClampNeg ((0 : Int32) + 1)) (some q9)) q13).2.2 r0 3 = some q4 := mz_ne g12_r0_3 (fun e => o_q13 (e ▸ ha.1))
  refine lv_dup hx hb dX8_init_53 rfl ?_
  refine zI X w (n := 0) (rest := [.ref q13, .int (((0 : Int32) + 1) + 1), .ref q4]) (XX := noX) (c_X0_init l D cy (gN u10.1 q13 0 0) (mz (mwP u10.2 q4 (Int32.toNatClampNeg ((0 : Int32) + 1)) (some q9)) q13) q13 isK_N) (fun _ _ => trivial) (fun _ _ _ _ h => h) (gzN wc_X0_init) rfl rfl rfl (tb wn_X0) (tb wm_X8_30) (tb wi_X0_init) rfl (by decide +kernel) (by decide) rfl rfl hl.1 (Nat.le_of_ble_eq_true rfl) dX8_init_54 (by decide) (fun u14 H locs hp14 hm14 w => ?_)
  have hX := exm_C hX hm14 o_q13
  have g14_r0_3 : u14.2.2.2 r0 3 = some q4 := sm_get (hm14.2 r0 (isK_ext (ext_N n_q13) (isK_ext hm10.1 (isK_ext (ext_N n_q9) (isK_ext hm6.1 (isK_ext (ext_N n_q5) (isK_ext (ext_N n_q4) (isK_ext (ext_N n_q3) (isK_ext hm2.1 (isK_ext (ext_N n_q1) ha))))))))).1 (fun e => o_q13 (e ▸ ha.1))) g13_r0_3
  have le15 : u14.1.2.2 q4 = 6 := ((hm14.1 _ (isK_ext (ext_N n_q13) (isK_ext hm10.1 (isK_ext (ext_N n_q9) (isK_ext hm6.1 (isK_ext (ext_N n_q5) isK_N))))).1).2.2.trans (((ext_N n_q13) _ (isK_ext hm10.1 (isK_ext (ext_N n_q9) (isK_ext hm6.1 (isK_ext (ext_N n_q5) isK_N)))).1).2.2.trans ((hm10.1 _ (isK_ext (ext_N n_q9) (isK_ext hm6.1 (isK_ext (ext_N n_q5) isK_N))).1).2.2.trans (((ext_N n_q9) _ (isK_ext hm6.1 (isK_ext (ext_N n_q5) isK_N)).1).2.2.trans ((hm6.1 _ (isK_ext (ext_N n_q5) isK_N).1).2.2.trans (((ext_N n_q5) _ isK_N.1).2.2.trans (va_up_self _ _ _)))))))
  refine zsr X w dX8_init_57 (isK_ext hm14.1 (isK_ext (ext_N n_q13) (isK_ext hm10.1 (isK_ext (ext_N n_q9) (isK_ext hm6.1 (isK_ext (ext_N n_q5) isK_N)))))) (by rw [le15]; decide) (isK_ext hm14.1 isK_N) (fun H locs w => ?_)
  have hX := exm_w (b := q4) hX (fun z hz _ e => o_q4 (e ▸ hz)) (mwP_o (M := u14.2) (a := q4) (k := (Int32.toNatClampNeg (((0 : Int32) + 1) + 1))) (x := some q13))
  have g16_r0_3 : (mwP u14.2 q4 (Int32.toNatClampNeg (((0 : Int32) + 1) + 1)) (some q13)).2.2 r0 3 = some q4 := mwP_ne g14_r0_3 (fun e => o_q4 (e ▸ ha.1))
  refine lv_iinc (v := ((((0 : Int32) + 1) + 1) + 1)) (lv' := [(1, .int ((((0 : Int32) + 1) + 1) + 1)), (0, .ref r0)]) hx hb dX8_init_58 hl (k := 0) rfl rfl (by decide) rfl (fun ls hl => ?_)
  refine lv_goto (tgt := 39) hx hb dX8_init_61 (by decide) ?_
  refine lv_iload_n hx hb dX8_init_39 rfl (lv_at hl 0 rfl) ?_
  refine lv_bipush (v := 6) hx hb dX8_init_40 (by decide) ?_
  refine lv_icmp_ge (tgt := 64) hx hb dX8_init_42 (by decide) (fun c => absurd c (by decide)) (fun _ => ?_)
  refine lv_aload_n hx hb dX8_init_45 rfl (lv_at hl 1 rfl) ?_
  refine zgr X w 8 3 26 (C := RX8) (T := TX8) (N := 10) rfl ui_X8 (by decide) rfl (tb wf_X8_26) dX8_init_46 (isK_ext hm14.1 (isK_ext (ext_N n_q13) (isK_ext hm10.1 (isK_ext (ext_N n_q9) (isK_ext hm6.1 (isK_ext (ext_N n_q5) (isK_ext (ext_N n_q4) (isK_ext (ext_N n_q3) (isK_ext hm2.1 (isK_ext (ext_N n_q1) ha)))))))))) g16_r0_3 ?_
  refine lv_iload_n hx hb dX8_init_49 rfl (lv_at hl 0 rfl) ?_
  refine zAo X w 0 tyX0 (C := RX0) (T := TX0) (N := 7) rfl ui_X0 tyX0_ok (tb wl_X8_24) (tb wq_X0) (tb wn_X0) fz_X0 (by decide) (by decide) dX8_init_50 (fun q17 H n_q17 w => ?_)
  have o_q17 : q17 ∉ G.1 := fun h => n_q17 ((hX.1 _ h).1)
  have hX := exm_N (k := 0) (n := 0) hX n_q17
  have g17_r0_3 : (mz (mwP u14.2 q4 (Int32.toNatClampNeg (((0 : Int32) + 1) + 1)) (some q13)) q17).2.2 r0 3 = some q4 := mz_ne g16_r0_3 (fun e => o_q17 (e ▸ ha.1))
  refine lv_dup hx hb dX8_init_53 rfl ?_
  refine zI X w (n := 0) (rest := [.ref q17, .int ((((0 : Int32) + 1) + 1) + 1), .ref q4]) (XX := noX) (c_X0_init l D cy (gN u14.1 q17 0 0) (mz (mwP u14.2 q4 (Int32.toNatClampNeg (((0 : Int32) + 1) + 1)) (some q13)) q17) q17 isK_N) (fun _ _ => trivial) (fun _ _ _ _ h => h) (gzN wc_X0_init) rfl rfl rfl (tb wn_X0) (tb wm_X8_30) (tb wi_X0_init) rfl (by decide +kernel) (by decide) rfl rfl hl.1 (Nat.le_of_ble_eq_true rfl) dX8_init_54 (by decide) (fun u18 H locs hp18 hm18 w => ?_)
  have hX := exm_C hX hm18 o_q17
  have g18_r0_3 : u18.2.2.2 r0 3 = some q4 := sm_get (hm18.2 r0 (isK_ext (ext_N n_q17) (isK_ext hm14.1 (isK_ext (ext_N n_q13) (isK_ext hm10.1 (isK_ext (ext_N n_q9) (isK_ext hm6.1 (isK_ext (ext_N n_q5) (isK_ext (ext_N n_q4) (isK_ext (ext_N n_q3) (isK_ext hm2.1 (isK_ext (ext_N n_q1) ha))))))))))).1 (fun e => o_q17 (e ▸ ha.1))) g17_r0_3
  have le19 : u18.1.2.2 q4 = 6 := ((hm18.1 _ (isK_ext (ext_N n_q17) (isK_ext hm14.1 (isK_ext (ext_N n_q13) (isK_ext hm10.1 (isK_ext (ext_N n_q9) (isK_ext hm6.1 (isK_ext (ext_N n_q5) isK_N))))))).1).2.2.trans (((ext_N n_q17) _ (isK_ext hm14.1 (isK_ext (ext_N n_q13) (isK_ext hm10.1 (isK_ext (ext_N n_q9) (isK_ext hm6.1 (isK_ext (ext_N n_q5) isK_N)))))).1).2.2.trans ((hm14.1 _ (isK_ext (ext_N n_q13) (isK_ext hm10.1 (isK_ext (ext_N n_q9) (isK_ext hm6.1 (isK_ext (ext_N n_q5) isK_N))))).1).2.2.trans (((ext_N n_q13) _ (isK_ext hm10.1 (isK_ext (ext_N n_q9) (isK_ext hm6.1 (isK_ext (ext_N n_q5) isK_N)))).1).2.2.trans ((hm10.1 _ (isK_ext (ext_N n_q9) (isK_ext hm6.1 (isK_ext (ext_N n_q5) isK_N))).1).2.2.trans (((ext_N n_q9) _ (isK_ext hm6.1 (isK_ext (ext_N n_q5) isK_N)).1).2.2.trans ((hm6.1 _ (isK_ext (ext_N n_q5) isK_N).1).2.2.trans (((ext_N n_q5) _ isK_N.1).2.2.trans (va_up_self _ _ _)))))))))
  refine zsr X w dX8_init_57 (isK_ext hm18.1 (isK_ext (ext_N n_q17) (isK_ext hm14.1 (isK_ext (ext_N n_q13) (isK_ext hm10.1 (isK_ext (ext_N n_q9) (isK_ext hm6.1 (isK_ext (ext_N n_q5) isK_N)))))))) (by rw [le19]; decide) (isK_ext hm18.1 isK_N) (fun H locs w => ?_)
  have hX := exm_w (b := q4) hX (fun z hz _ e => o_q4 (e ▸ hz)) (mwP_o (M := u18.2) (a := q4) (k := (Int32.toNatClampNeg ((((0 : Int32) + 1) + 1) + 1))) (x := some q17))
  have g20_r0_3 : (mwP u18.2 q4 (Int32.toNatClampNeg ((((0 : Int32) + 1) + 1) + 1)) (some q17)).2.2 r0 3 = some q4 := mwP_ne g18_r0_3 (fun e => o_q4 (e ▸ ha.1))
  refine lv_iinc (v := (((((0 : Int32) + 1) + 1) + 1) + 1)) (lv' := [(1, .int (((((0 : Int32) + 1) + 1) + 1) + 1)), (0, .ref r0)]) hx hb dX8_init_58 hl (k := 0) rfl rfl (by decide) rfl (fun ls hl => ?_)
  refine lv_goto (tgt := 39) hx hb dX8_init_61 (by decide) ?_
  refine lv_iload_n hx hb dX8_init_39 rfl (lv_at hl 0 rfl) ?_
  refine lv_bipush (v := 6) hx hb dX8_init_40 (by decide) ?_
  refine lv_icmp_ge (tgt := 64) hx hb dX8_init_42 (by decide) (fun c => absurd c (by decide)) (fun _ => ?_)
  refine lv_aload_n hx hb dX8_init_45 rfl (lv_at hl 1 rfl) ?_
  refine zgr X w 8 3 26 (C := RX8) (T := TX8) (N := 10) rfl ui_X8 (by decide) rfl (tb wf_X8_26) dX8_init_46 (isK_ext hm18.1 (isK_ext (ext_N n_q17) (isK_ext hm14.1 (isK_ext (ext_N n_q13) (isK_ext hm10.1 (isK_ext (ext_N n_q9) (isK_ext hm6.1 (isK_ext (ext_N n_q5) (isK_ext (ext_N n_q4) (isK_ext (ext_N n_q3) (isK_ext hm2.1 (isK_ext (ext_N n_q1) ha)))))))))))) g20_r0_3 ?_
  refine lv_iload_n hx hb dX8_init_49 rfl (lv_at hl 0 rfl) ?_
  refine zAo X w 0 tyX0 (C := RX0) (T := TX0) (N := 7) rfl ui_X0 tyX0_ok (tb wl_X8_24) (tb wq_X0) (tb wn_X0) fz_X0 (by decide) (by decide) dX8_init_50 (fun q21 H n_q21 w => ?_)
  have o_q21 : q21 ∉ G.1 := fun h => n_q21 ((hX.1 _ h).1)
  have hX := exm_N (k := 0) (n := 0) hX n_q21
  have g21_r0_3 : (mz (mwP u18.2 q4 (Int32.toNatClampNeg ((((0 : Int32) + 1) + 1) + 1)) (some q17)) q21).2.2 r0 3 = some q4 := mz_ne g20_r0_3 (fun e => o_q21 (e ▸ ha.1))
  refine lv_dup hx hb dX8_init_53 rfl ?_
  refine zI X w (n := 0) (rest := [.ref q21, .int (((((0 : Int32) + 1) + 1) + 1) + 1), .ref q4]) (XX := noX) (c_X0_init l D cy (gN u18.1 q21 0 0) (mz (mwP u18.2 q4 (Int32.toNatClampNeg ((((0 : Int32) + 1) + 1) + 1)) (some q17)) q21) q21 isK_N) (fun _ _ => trivial) (fun _ _ _ _ h => h) (gzN wc_X0_init) rfl rfl rfl (tb wn_X0) (tb wm_X8_30) (tb wi_X0_init) rfl (by decide +kernel) (by decide) rfl rfl hl.1 (Nat.le_of_ble_eq_true rfl) dX8_init_54 (by decide) (fun u22 H locs hp22 hm22 w => ?_)
  have hX := exm_C hX hm22 o_q21
  have g22_r0_3 : u22.2.2.2 r0 3 = some q4 := sm_get (hm22.2 r0 (isK_ext (ext_N n_q21) (isK_ext hm18.1 (isK_ext (ext_N n_q17) (isK_ext hm14.1 (isK_ext (ext_N n_q13) (isK_ext hm10.1 (isK_ext (ext_N n_q9) (isK_ext hm6.1 (isK_ext (ext_N n_q5) (isK_ext (ext_N n_q4) (isK_ext (ext_N n_q3) (isK_ext hm2.1 (isK_ext (ext_N n_q1) ha))))))))))))).1 (fun e => o_q21 (e ▸ ha.1))) g21_r0_3
  have le23 : u22.1.2.2 q4 = 6 := ((hm22.1 _ (isK_ext (ext_N n_q21) (isK_ext hm18.1 (isK_ext (ext_N n_q17) (isK_ext hm14.1 (isK_ext (ext_N n_q13) (isK_ext hm10.1 (isK_ext (ext_N n_q9) (isK_ext hm6.1 (isK_ext (ext_N n_q5) isK_N))))))))).1).2.2.trans (((ext_N n_q21) _ (isK_ext hm18.1 (isK_ext (ext_N n_q17) (isK_ext hm14.1 (isK_ext (ext_N n_q13) (isK_ext hm10.1 (isK_ext (ext_N n_q9) (isK_ext hm6.1 (isK_ext (ext_N n_q5) isK_N)))))))).1).2.2.trans ((hm18.1 _ (isK_ext (ext_N n_q17) (isK_ext hm14.1 (isK_ext (ext_N n_q13) (isK_ext hm10.1 (isK_ext (ext_N n_q9) (isK_ext hm6.1 (isK_ext (ext_N n_q5) isK_N))))))).1).2.2.trans (((ext_N n_q17) _ (isK_ext hm14.1 (isK_ext (ext_N n_q13) (isK_ext hm10.1 (isK_ext (ext_N n_q9) (isK_ext hm6.1 (isK_ext (ext_N n_q5) isK_N)))))).1).2.2.trans ((hm14.1 _ (isK_ext (ext_N n_q13) (isK_ext hm10.1 (isK_ext (ext_N n_q9) (isK_ext hm6.1 (isK_ext (ext_N n_q5) isK_N))))).1).2.2.trans (((ext_N n_q13) _ (isK_ext hm10.1 (isK_ext (ext_N n_q9) (isK_ext hm6.1 (isK_ext (ext_N n_q5) isK_N)))).1).2.2.trans ((hm10.1 _ (isK_ext (ext_N n_q9) (isK_ext hm6.1 (isK_ext (ext_N n_q5) isK_N))).1).2.2.trans (((ext_N n_q9) _ (isK_ext hm6.1 (isK_ext (ext_N n_q5) isK_N)).1).2.2.trans ((hm6.1 _ (isK_ext (ext_N n_q5) isK_N).1).2.2.trans (((ext_N n_q5) _ isK_N.1).2.2.trans (va_up_self _ _ _)))))))))))
  refine zsr X w dX8_init_57 (isK_ext hm22.1 (isK_ext (ext_N n_q21) (isK_ext hm18.1 (isK_ext (ext_N n_q17) (isK_ext hm14.1 (isK_ext (ext_N n_q13) (isK_ext hm10.1 (isK_ext (ext_N n_q9) (isK_ext hm6.1 (isK_ext (ext_N n_q5) isK_N)))))))))) (by rw [le23]; decide) (isK_ext hm22.1 isK_N) (fun H locs w => ?_)
  have hX := exm_w (b := q4) hX (fun z hz _ e => o_q4 (e ▸ hz)) (mwP_o (M := u22.2) (a := q4) (k := (Int32.toNatClampNeg (((((0 : Int32) + 1) + 1) + 1) + 1))) (x := some q21))
  have g24_r0_3 : (mwP u22.2 q4 (Int32.toNatClampNeg (((((0 : Int32) + 1) + 1) + 1) + 1)) (some q21)).2.2 r0 3 = some q4 := mwP_ne g22_r0_3 (fun e => o_q4 (e ▸ ha.1))
  refine lv_iinc (v := ((((((0 : Int32) + 1) + 1) + 1) + 1) + 1)) (lv' := [(1, .int ((((((0 : Int32) + 1) + 1) + 1) + 1) + 1)), (0, .ref r0)]) hx hb dX8_init_58 hl (k := 0) rfl rfl (by decide) rfl (fun ls hl => ?_)
  refine lv_goto (tgt := 39) hx hb dX8_init_61 (by decide) ?_
  refine lv_iload_n hx hb dX8_init_39 rfl (lv_at hl 0 rfl) ?_
  refine lv_bipush (v := 6) hx hb dX8_init_40 (by decide) ?_
  refine lv_icmp_ge (tgt := 64) hx hb dX8_init_42 (by decide) (fun c => absurd c (by decide)) (fun _ => ?_)
  refine lv_aload_n hx hb dX8_init_45 rfl (lv_at hl 1 rfl) ?_
  refine zgr X w 8 3 26 (C := RX8) (T := TX8) (N := 10) rfl ui_X8 (by decide) rfl (tb wf_X8_26) dX8_init_46 (isK_ext hm22.1 (isK_ext (ext_N n_q21) (isK_ext hm18.1 (isK_ext (ext_N n_q17) (isK_ext hm14.1 (isK_ext (ext_N n_q13) (isK_ext hm10.1 (isK_ext (ext_N n_q9) (isK_ext hm6.1 (isK_ext (ext_N n_q5) (isK_ext (ext_N n_q4) (isK_ext (ext_N n_q3) (isK_ext hm2.1 (isK_ext (ext_N n_q1) ha)))))))))))))) g24_r0_3 ?_
  refine lv_iload_n hx hb dX8_init_49 rfl (lv_at hl 0 rfl) ?_
  refine zAo X w 0 tyX0 (C := RX0) (T := TX0) (N := 7) rfl ui_X0 tyX0_ok (tb wl_X8_24) (tb wq_X0) (tb wn_X0) fz_X0 (by decide) (by decide) dX8_init_50 (fun q25 H n_q25 w => ?_)
  have o_q25 : q25 ∉ G.1 := fun h => n_q25 ((hX.1 _ h).1)
  have hX := exm_N (k := 0) (n := 0) hX n_q25
  have g25_r0_3 : (mz (mwP u22.2 q4 (Int32.toNatClampNeg (((((0 : Int32) + 1) + 1) + 1) + 1)) (some q21)) q25).2.2 r0 3 = some q4 := mz_ne g24_r0_3 (fun e => o_q25 (e ▸ ha.1))
  refine lv_dup hx hb dX8_init_53 rfl ?_
  refine zI X w (n := 0) (rest := [.ref q25, .int ((((((0 : Int32) + 1) + 1) + 1) + 1) + 1), .ref q4]) (XX := noX) (c_X0_init l D cy (gN u22.1 q25 0 0) (mz (mwP u22.2 q4 (Int32.toNatClampNeg (((((0 : Int32) + 1) + 1) + 1) + 1)) (some q21)) q25) q25 isK_N) (fun _ _ => trivial) (fun _ _ _ _ h => h) (gzN wc_X0_init) rfl rfl rfl (tb wn_X0) (tb wm_X8_30) (tb wi_X0_init) rfl (by decide +kernel) (by decide) rfl rfl hl.1 (Nat.le_of_ble_eq_true rfl) dX8_init_54 (by decide) (fun u26 H locs hp26 hm26 w => ?_)
  have hX := exm_C hX hm26 o_q25
  have g26_r0_3 : u26.2.2.2 r0 3 = some q4 := sm_get (hm26.2 r0 (isK_ext (ext_N n_q25) (isK_ext hm22.1 (isK_ext (ext_N n_q21) (isK_ext hm18.1 (isK_ext (ext_N n_q17) (isK_ext hm14.1 (isK_ext (ext_N n_q13) (isK_ext hm10.1 (isK_ext (ext_N n_q9) (isK_ext hm6.1 (isK_ext (ext_N n_q5) (isK_ext (ext_N n_q4) (isK_ext (ext_N n_q3) (isK_ext hm2.1 (isK_ext (ext_N n_q1) ha))))))))))))))).1 (fun e => o_q25 (e ▸ ha.1))) g25_r0_3
  have le27 : u26.1.2.2 q4 = 6 := ((hm26.1 _ (isK_ext (ext_N n_q25) (isK_ext hm22.1 (isK_ext (ext_N n_q21) (isK_ext hm18.1 (isK_ext (ext_N n_q17) (isK_ext hm14.1 (isK_ext (ext_N n_q13) (isK_ext hm10.1 (isK_ext (ext_N n_q9) (isK_ext hm6.1 (isK_ext (ext_N n_q5) isK_N))))))))))).1).2.2.trans (((ext_N n_q25) _ (isK_ext hm22.1 (isK_ext (ext_N n_q21) (isK_ext hm18.1 (isK_ext (ext_N n_q17) (isK_ext hm14.1 (isK_ext (ext_N n_q13) (isK_ext hm10.1 (isK_ext (ext_N n_q9) (isK_ext hm6.1 (isK_ext (ext_N n_q5) isK_N)))))))))).1).2.2.trans ((hm22.1 _ (isK_ext (ext_N n_q21) (isK_ext hm18.1 (isK_ext (ext_N n_q17) (isK_ext hm14.1 (isK_ext (ext_N n_q13) (isK_ext hm10.1 (isK_ext (ext_N n_q9) (isK_ext hm6.1 (isK_ext (ext_N n_q5) isK_N))))))))).1).2.2.trans (((ext_N n_q21) _ (isK_ext hm18.1 (isK_ext (ext_N n_q17) (isK_ext hm14.1 (isK_ext (ext_N n_q13) (isK_ext hm10.1 (isK_ext (ext_N n_q9) (isK_ext hm6.1 (isK_ext (ext_N n_q5) isK_N)))))))).1).2.2.trans ((hm18.1 _ (isK_ext (ext_N n_q17) (isK_ext hm14.1 (isK_ext (ext_N n_q13) (isK_ext hm10.1 (isK_ext (ext_N n_q9) (isK_ext hm6.1 (isK_ext (ext_N n_q5) isK_N))))))).1).2.2.trans (((ext_N n_q17) _ (isK_ext hm14.1 (isK_ext (ext_N n_q13) (isK_ext hm10.1 (isK_ext (ext_N n_q9) (isK_ext hm6.1 (isK_ext (ext_N n_q5) isK_N)))))).1).2.2.trans ((hm14.1 _ (isK_ext (ext_N n_q13) (isK_ext hm10.1 (isK_ext (ext_N n_q9) (isK_ext hm6.1 (isK_ext (ext_N n_q5) isK_N))))).1).2.2.trans (((ext_N n_q13) _ (isK_ext hm10.1 (isK_ext (ext_N n_q9) (isK_ext hm6.1 (isK_ext (ext_N n_q5) isK_N)))).1).2.2.trans ((hm10.1 _ (isK_ext (ext_N n_q9) (isK_ext hm6.1 (isK_ext (ext_N n_q5) isK_N))).1).2.2.trans (((ext_N n_q9) _ (isK_ext hm6.1 (isK_ext (ext_N n_q5) isK_N)).1).2.2.trans ((hm6.1 _ (isK_ext (ext_N n_q5) isK_N).1).2.2.trans (((ext_N n_q5) _ isK_N.1).2.2.trans (va_up_self _ _ _)))))))))))))
  refine zsr X w dX8_init_57 (isK_ext hm26.1 (isK_ext (ext_N n_q25) (isK_ext hm22.1 (isK_ext (ext_N n_q21) (isK_ext hm18.1 (isK_ext (ext_N n_q17) (isK_ext hm14.1 (isK_ext (ext_N n_q13) (isK_ext hm10.1 (isK_ext (ext_N n_q9) (isK_ext hm6.1 (isK_ext (ext_N n_q5) isK_N)))))))))))) (by rw [le27]; decide) (isK_ext hm26.1 isK_N) (fun H locs w => ?_)
  have hX := exm_w (b := q4) hX (fun z hz _ e => o_q4 (e ▸ hz)) (mwP_o (M := u26.2) (a := q4) (k := (Int32.toNatClampNeg ((((((0 : Int32) + 1) + 1) + 1) + 1) + 1))) (x := some q25))
  have g28_r0_3 : (mwP u26.2 q4 (Int32.toNatClampNeg ((((((0 : Int32) + 1) + 1) + 1) + 1) + 1)) (some q25)).2.2 r0 3 = some q4 := mwP_ne g26_r0_3 (fun e => o_q4 (e ▸ ha.1))
  refine lv_iinc (v := (((((((0 : Int32) + 1) + 1) + 1) + 1) + 1) + 1)) (lv' := [(1, .int (((((((0 : Int32) + 1) + 1) + 1) + 1) + 1) + 1)), (0, .ref r0)]) hx hb dX8_init_58 hl (k := 0) rfl rfl (by decide) rfl (fun ls hl => ?_)
  refine lv_goto (tgt := 39) hx hb dX8_init_61 (by decide) ?_
  refine lv_iload_n hx hb dX8_init_39 rfl (lv_at hl 0 rfl) ?_
  refine lv_bipush (v := 6) hx hb dX8_init_40 (by decide) ?_
  refine lv_icmp_ge (tgt := 64) hx hb dX8_init_42 (by decide) (fun _ => ?_) (fun c => absurd (by decide) c)
  refine lv_aload_n hx hb dX8_init_64 rfl (lv_at hl 1 rfl) ?_
  refine zAo X w 0 tyX0 (C := RX0) (T := TX0) (N := 7) rfl ui_X0 tyX0_ok (tb wl_X8_24) (tb wq_X0) (tb wn_X0) fz_X0 (by decide) (by decide) dX8_init_65 (fun q29 H n_q29 w => ?_)
  have o_q29 : q29 ∉ G.1 := fun h => n_q29 ((hX.1 _ h).1)
  have hX := exm_N (k := 0) (n := 0) hX n_q29
  have g29_r0_3 : (mz (mwP u26.2 q4 (Int32.toNatClampNeg ((((((0 : Int32) + 1) + 1) + 1) + 1) + 1)) (some q25)) q29).2.2 r0 3 = some q4 := mz_ne g28_r0_3 (fun e => o_q29 (e ▸ ha.1))
  refine lv_dup hx hb dX8_init_68 rfl ?_
  refine zI X w (n := 0) (rest := [.ref q29, .ref r0]) (XX := noX) (c_X0_init l D cy (gN u26.1 q29 0 0) (mz (mwP u26.2 q4 (Int32.toNatClampNeg ((((((0 : Int32) + 1) + 1) + 1) + 1) + 1)) (some q25)) q29) q29 isK_N) (fun _ _ => trivial) (fun _ _ _ _ h => h) (gzN wc_X0_init) rfl rfl rfl (tb wn_X0) (tb wm_X8_30) (tb wi_X0_init) rfl (by decide +kernel) (by decide) rfl rfl hl.1 (Nat.le_of_ble_eq_true rfl) dX8_init_69 (by decide) (fun u30 H locs hp30 hm30 w => ?_)
  have hX := exm_C hX hm30 o_q29
  have g30_r0_3 : u30.2.2.2 r0 3 = some q4 := sm_get (hm30.2 r0 (isK_ext (ext_N n_q29) (isK_ext hm26.1 (isK_ext (ext_N n_q25) (isK_ext hm22.1 (isK_ext (ext_N n_q21) (isK_ext hm18.1 (isK_ext (ext_N n_q17) (isK_ext hm14.1 (isK_ext (ext_N n_q13) (isK_ext hm10.1 (isK_ext (ext_N n_q9) (isK_ext hm6.1 (isK_ext (ext_N n_q5) (isK_ext (ext_N n_q4) (isK_ext (ext_N n_q3) (isK_ext hm2.1 (isK_ext (ext_N n_q1) ha))))))))))))))))).1 (fun e => o_q29 (e ▸ ha.1))) g29_r0_3
  refine zpr X w 8 4 31 tyX8 (C := RX8) (T := TX8) (N := 10) rfl ui_X8 tyX8_ok nmX8 (by decide) rfl (tb wf_X8_31) rfl rfl rfl dX8_init_72 (isK_ext hm30.1 (isK_ext (ext_N n_q29) (isK_ext hm26.1 (isK_ext (ext_N n_q25) (isK_ext hm22.1 (isK_ext (ext_N n_q21) (isK_ext hm18.1 (isK_ext (ext_N n_q17) (isK_ext hm14.1 (isK_ext (ext_N n_q13) (isK_ext hm10.1 (isK_ext (ext_N n_q9) (isK_ext hm6.1 (isK_ext (ext_N n_q5) (isK_ext (ext_N n_q4) (isK_ext (ext_N n_q3) (isK_ext hm2.1 (isK_ext (ext_N n_q1) ha)))))))))))))))))) (fun H locs w => ?_)
  have hX := exm_w hX (fun _ _ h => h) (mwP_o (M := u30.2) (a := r0) (k := 4) (x := some q29))
  have g31_r0_3 : (mwP u30.2 r0 4 (some q29)).2.2 r0 3 = some q4 := mwP_nf g30_r0_3 (by decide)
  refine lv_aload_n hx hb dX8_init_75 rfl (lv_at hl 1 rfl) ?_
  refine zAo X w 5 tyX5 (C := RX5) (T := TX5) (N := 4) rfl ui_X5 tyX5_ok (tb wl_X8_35) (tb wq_X5) (tb wn_X5) fz_X5 (by decide) (by decide) dX8_init_76 (fun q32 H n_q32 w => ?_)
  have o_q32 : q32 ∉ G.1 := fun h => n_q32 ((hX.1 _ h).1)
  have hX := exm_N (k := 5) (n := 0) hX n_q32
  have g32_r0_3 : (mz (mwP u30.2 r0 4 (some q29)) q32).2.2 r0 3 = some q4 := mz_ne g31_r0_3 (fun e => o_q32 (e ▸ ha.1))
  refine lv_dup hx hb dX8_init_79 rfl ?_
  refine zI X w (n := 0) (rest := [.ref q32, .ref r0]) (XX := noX) (c_X5_init l D cy (gN u30.1 q32 5 0) (mz (mwP u30.2 r0 4 (some q29)) q32) q32 isK_N) (fun _ _ => trivial) (fun _ _ _ _ h => h) (gzN wc_X5_init) rfl rfl rfl (tb wn_X5) (tb wm_X8_37) (tb wi_X5_init) rfl (by decide +kernel) (by decide) rfl rfl hl.1 (Nat.le_of_ble_eq_true rfl) dX8_init_80 (by decide) (fun u33 H locs hp33 hm33 w => ?_)
  have hX := exm_C hX hm33 o_q32
  have g33_r0_3 : u33.2.2.2 r0 3 = some q4 := sm_get (hm33.2 r0 (isK_ext (ext_N n_q32) (isK_ext hm30.1 (isK_ext (ext_N n_q29) (isK_ext hm26.1 (isK_ext (ext_N n_q25) (isK_ext hm22.1 (isK_ext (ext_N n_q21) (isK_ext hm18.1 (isK_ext (ext_N n_q17) (isK_ext hm14.1 (isK_ext (ext_N n_q13) (isK_ext hm10.1 (isK_ext (ext_N n_q9) (isK_ext hm6.1 (isK_ext (ext_N n_q5) (isK_ext (ext_N n_q4) (isK_ext (ext_N n_q3) (isK_ext hm2.1 (isK_ext (ext_N n_q1) ha))))))))))))))))))).1 (fun e => o_q32 (e ▸ ha.1))) g32_r0_3
  refine zpF X w hin 8 5 38 tyX8 (C := RX8) (T := TX8) (N := 10) rfl ui_X8 tyX8_ok nmX8 (by decide) rfl (tb wf_X8_38) rfl rfl rfl rfl dX8_init_83 (isK_ext hm33.1 (isK_ext (ext_N n_q32) (isK_ext hm30.1 (isK_ext (ext_N n_q29) (isK_ext hm26.1 (isK_ext (ext_N n_q25) (isK_ext hm22.1 (isK_ext (ext_N n_q21) (isK_ext hm18.1 (isK_ext (ext_N n_q17) (isK_ext hm14.1 (isK_ext (ext_N n_q13) (isK_ext hm10.1 (isK_ext (ext_N n_q9) (isK_ext hm6.1 (isK_ext (ext_N n_q5) (isK_ext (ext_N n_q4) (isK_ext (ext_N n_q3) (isK_ext hm2.1 (isK_ext (ext_N n_q1) ha)))))))))))))))))))) (fun H locs w => ?_)
  have hX := exm_w hX (fun _ _ h => h) (mwP_o (M := u33.2) (a := r0) (k := 5) (x := some q32))
  have g34_r0_3 : (mwP u33.2 r0 5 (some q32)).2.2 r0 3 = some q4 := mwP_nf g33_r0_3 (by decide)
  refine lv_aload_n hx hb dX8_init_86 rfl (lv_at hl 1 rfl) ?_
  refine zAo X w 7 tyX7 (C := RX7) (T := TX7) (N := 3) rfl ui_X7 tyX7_ok (tb wl_X8_42) (tb wq_X7) (tb wn_X7) fz_X7 (by decide) (by decide) dX8_init_87 (fun q35 H n_q35 w => ?_)
  have o_q35 : q35 ∉ G.1 := fun h => n_q35 ((hX.1 _ h).1)
  have hX := exm_N (k := 7) (n := 0) hX n_q35
  have g35_r0_3 : (mz (mwP u33.2 r0 5 (some q32)) q35).2.2 r0 3 = some q4 := mz_ne g34_r0_3 (fun e => o_q35 (e ▸ ha.1))
  refine lv_dup hx hb dX8_init_90 rfl ?_
  refine zI X w (n := 0) (rest := [.ref q35, .ref r0]) (XX := noX) (c_X7_init l D cy (gN u33.1 q35 7 0) (mz (mwP u33.2 r0 5 (some q32)) q35) q35 isK_N) (fun _ _ => trivial) (fun _ _ _ _ h => h) (gzN wc_X7_init) rfl rfl rfl (tb wn_X7) (tb wm_X8_44) (tb wi_X7_init) rfl (by decide +kernel) (by decide) rfl rfl hl.1 (Nat.le_of_ble_eq_true rfl) dX8_init_91 (by decide) (fun u36 H locs hp36 hm36 w => ?_)
  have hX := exm_C hX hm36 o_q35
  have g36_r0_3 : u36.2.2.2 r0 3 = some q4 := sm_get (hm36.2 r0 (isK_ext (ext_N n_q35) (isK_ext hm33.1 (isK_ext (ext_N n_q32) (isK_ext hm30.1 (isK_ext (ext_N n_q29) (isK_ext hm26.1 (isK_ext (ext_N n_q25) (isK_ext hm22.1 (isK_ext (ext_N n_q21) (isK_ext hm18.1 (isK_ext (ext_N n_q17) (isK_ext hm14.1 (isK_ext (ext_N n_q13) (isK_ext hm10.1 (isK_ext (ext_N n_q9) (isK_ext hm6.1 (isK_ext (ext_N n_q5) (isK_ext (ext_N n_q4) (isK_ext (ext_N n_q3) (isK_ext hm2.1 (isK_ext (ext_N n_q1) ha))))))))))))))))))))).1 (fun e => o_q35 (e ▸ ha.1))) g35_r0_3
  refine zpF X w hin 8 6 45 tyX8 (C := RX8) (T := TX8) (N := 10) rfl ui_X8 tyX8_ok nmX8 (by decide) rfl (tb wf_X8_45) rfl rfl rfl rfl dX8_init_94 (isK_ext hm36.1 (isK_ext (ext_N n_q35) (isK_ext hm33.1 (isK_ext (ext_N n_q32) (isK_ext hm30.1 (isK_ext (ext_N n_q29) (isK_ext hm26.1 (isK_ext (ext_N n_q25) (isK_ext hm22.1 (isK_ext (ext_N n_q21) (isK_ext hm18.1 (isK_ext (ext_N n_q17) (isK_ext hm14.1 (isK_ext (ext_N n_q13) (isK_ext hm10.1 (isK_ext (ext_N n_q9) (isK_ext hm6.1 (isK_ext (ext_N n_q5) (isK_ext (ext_N n_q4) (isK_ext (ext_N n_q3) (isK_ext hm2.1 (isK_ext (ext_N n_q1) ha)))))))))))))))))))))) (fun H locs w => ?_)
  have hX := exm_w hX (fun _ _ h => h) (mwP_o (M := u36.2) (a := r0) (k := 6) (x := some q35))
  have g37_r0_3 : (mwP u36.2 r0 6 (some q35)).2.2 r0 3 = some q4 := mwP_nf g36_r0_3 (by decide)
  refine lv_aload_n hx hb dX8_init_97 rfl (lv_at hl 1 rfl) ?_
  refine zAo X w 2 tyX2 (C := RX2) (T := TX2) (N := 2) rfl ui_X2 tyX2_ok (tb wl_X8_49) (tb wq_X2) (tb wn_X2) fz_X2 (by decide) (by decide) dX8_init_98 (fun q38 H n_q38 w => ?_)
  have o_q38 : q38 ∉ G.1 := fun h => n_q38 ((hX.1 _ h).1)
  have hX := exm_N (k := 2) (n := 0) hX n_q38
  have g38_r0_3 : (mz (mwP u36.2 r0 6 (some q35)) q38).2.2 r0 3 = some q4 := mz_ne g37_r0_3 (fun e => o_q38 (e ▸ ha.1))
  refine lv_dup hx hb dX8_init_101 rfl ?_
  refine zI X w (n := 0) (rest := [.ref q38, .ref r0]) (XX := noX) (c_X2_init l D cy (gN u36.1 q38 2 0) (mz (mwP u36.2 r0 6 (some q35)) q38) q38 isK_N) (fun _ _ => trivial) (fun _ _ _ _ h => h) (gzN wc_X2_init) rfl rfl rfl (tb wn_X2) (tb wm_X8_51) (tb wi_X2_init) rfl (by decide +kernel) (by decide) rfl rfl hl.1 (Nat.le_of_ble_eq_true rfl) dX8_init_102 (by decide) (fun u39 H locs hp39 hm39 w => ?_)
  have hX := exm_C hX hm39 o_q38
  have g39_r0_3 : u39.2.2.2 r0 3 = some q4 := sm_get (hm39.2 r0 (isK_ext (ext_N n_q38) (isK_ext hm36.1 (isK_ext (ext_N n_q35) (isK_ext hm33.1 (isK_ext (ext_N n_q32) (isK_ext hm30.1 (isK_ext (ext_N n_q29) (isK_ext hm26.1 (isK_ext (ext_N n_q25) (isK_ext hm22.1 (isK_ext (ext_N n_q21) (isK_ext hm18.1 (isK_ext (ext_N n_q17) (isK_ext hm14.1 (isK_ext (ext_N n_q13) (isK_ext hm10.1 (isK_ext (ext_N n_q9) (isK_ext hm6.1 (isK_ext (ext_N n_q5) (isK_ext (ext_N n_q4) (isK_ext (ext_N n_q3) (isK_ext hm2.1 (isK_ext (ext_N n_q1) ha))))))))))))))))))))))).1 (fun e => o_q38 (e ▸ ha.1))) g38_r0_3
  refine zpF X w hin 8 7 52 tyX8 (C := RX8) (T := TX8) (N := 10) rfl ui_X8 tyX8_ok nmX8 (by decide) rfl (tb wf_X8_52) rfl rfl rfl rfl dX8_init_105 (isK_ext hm39.1 (isK_ext (ext_N n_q38) (isK_ext hm36.1 (isK_ext (ext_N n_q35) (isK_ext hm33.1 (isK_ext (ext_N n_q32) (isK_ext hm30.1 (isK_ext (ext_N n_q29) (isK_ext hm26.1 (isK_ext (ext_N n_q25) (isK_ext hm22.1 (isK_ext (ext_N n_q21) (isK_ext hm18.1 (isK_ext (ext_N n_q17) (isK_ext hm14.1 (isK_ext (ext_N n_q13) (isK_ext hm10.1 (isK_ext (ext_N n_q9) (isK_ext hm6.1 (isK_ext (ext_N n_q5) (isK_ext (ext_N n_q4) (isK_ext (ext_N n_q3) (isK_ext hm2.1 (isK_ext (ext_N n_q1) ha)))))))))))))))))))))))) (fun H locs w => ?_)
  have hX := exm_w hX (fun _ _ h => h) (mwP_o (M := u39.2) (a := r0) (k := 7) (x := some q38))
  have g40_r0_3 : (mwP u39.2 r0 7 (some q38)).2.2 r0 3 = some q4 := mwP_nf g39_r0_3 (by decide)
  refine lv_aload_n hx hb dX8_init_108 rfl (lv_at hl 1 rfl) ?_
  refine zAo X w 4 tyX4 (C := RX4) (T := TX4) (N := 3) rfl ui_X4 tyX4_ok (tb wl_X8_56) (tb wq_X4) (tb wn_X4) fz_X4 (by decide) (by decide) dX8_init_109 (fun q41 H n_q41 w => ?_)
  have o_q41 : q41 ∉ G.1 := fun h => n_q41 ((hX.1 _ h).1)
  have hX := exm_N (k := 4) (n := 0) hX n_q41
  have g41_r0_3 : (mz (mwP u39.2 r0 7 (some q38)) q41).2.2 r0 3 = some q4 := mz_ne g40_r0_3 (fun e => o_q41 (e ▸ ha.1))
  refine lv_dup hx hb dX8_init_112 rfl ?_
  refine zI X w (n := 0) (rest := [.ref q41, .ref r0]) (XX := noX) (c_X4_init l D cy (gN u39.1 q41 4 0) (mz (mwP u39.2 r0 7 (some q38)) q41) q41 isK_N) (fun _ _ => trivial) (fun _ _ _ _ h => h) (gzN wc_X4_init) rfl rfl rfl (tb wn_X4) (tb wm_X8_58) (tb wi_X4_init) rfl (by decide +kernel) (by decide) rfl rfl hl.1 (Nat.le_of_ble_eq_true rfl) dX8_init_113 (by decide) (fun u42 H locs hp42 hm42 w => ?_)
  have hX := exm_C hX hm42 o_q41
  have g42_r0_3 : u42.2.2.2 r0 3 = some q4 := sm_get (hm42.2 r0 (isK_ext (ext_N n_q41) (isK_ext hm39.1 (isK_ext (ext_N n_q38) (isK_ext hm36.1 (isK_ext (ext_N n_q35) (isK_ext hm33.1 (isK_ext (ext_N n_q32) (isK_ext hm30.1 (isK_ext (ext_N n_q29) (isK_ext hm26.1 (isK_ext (ext_N n_q25) (isK_ext hm22.1 (isK_ext (ext_N n_q21) (isK_ext hm18.1 (isK_ext (ext_N n_q17) (isK_ext hm14.1 (isK_ext (ext_N n_q13) (isK_ext hm10.1 (isK_ext (ext_N n_q9) (isK_ext hm6.1 (isK_ext (ext_N n_q5) (isK_ext (ext_N n_q4) (isK_ext (ext_N n_q3) (isK_ext hm2.1 (isK_ext (ext_N n_q1) ha))))))))))))))))))))))))).1 (fun e => o_q41 (e ▸ ha.1))) g41_r0_3
  refine zpF X w hin 8 8 59 tyX8 (C := RX8) (T := TX8) (N := 10) rfl ui_X8 tyX8_ok nmX8 (by decide) rfl (tb wf_X8_59) rfl rfl rfl rfl dX8_init_116 (isK_ext hm42.1 (isK_ext (ext_N n_q41) (isK_ext hm39.1 (isK_ext (ext_N n_q38) (isK_ext hm36.1 (isK_ext (ext_N n_q35) (isK_ext hm33.1 (isK_ext (ext_N n_q32) (isK_ext hm30.1 (isK_ext (ext_N n_q29) (isK_ext hm26.1 (isK_ext (ext_N n_q25) (isK_ext hm22.1 (isK_ext (ext_N n_q21) (isK_ext hm18.1 (isK_ext (ext_N n_q17) (isK_ext hm14.1 (isK_ext (ext_N n_q13) (isK_ext hm10.1 (isK_ext (ext_N n_q9) (isK_ext hm6.1 (isK_ext (ext_N n_q5) (isK_ext (ext_N n_q4) (isK_ext (ext_N n_q3) (isK_ext hm2.1 (isK_ext (ext_N n_q1) ha)))))))))))))))))))))))))) (fun H locs w => ?_)
  have hX := exm_w hX (fun _ _ h => h) (mwP_o (M := u42.2) (a := r0) (k := 8) (x := some q41))
  have g43_r0_3 : (mwP u42.2 r0 8 (some q41)).2.2 r0 3 = some q4 := mwP_nf g42_r0_3 (by decide)
  refine lv_aload_n hx hb dX8_init_119 rfl (lv_at hl 1 rfl) ?_
  refine zAo X w 1 tyX1 (C := RX1) (T := TX1) (N := 2) rfl ui_X1 tyX1_ok (tb wl_X8_63) (tb wq_X1) (tb wn_X1) fz_X1 (by decide) (by decide) dX8_init_120 (fun q44 H n_q44 w => ?_)
  have o_q44 : q44 ∉ G.1 := fun h => n_q44 ((hX.1 _ h).1)
  have hX := exm_N (k := 1) (n := 0) hX n_q44
  have g44_r0_3 : (mz (mwP u42.2 r0 8 (some q41)) q44).2.2 r0 3 = some q4 := mz_ne g43_r0_3 (fun e => o_q44 (e ▸ ha.1))
  refine lv_dup hx hb dX8_init_123 rfl ?_
  refine zI X w (n := 0) (rest := [.ref q44, .ref r0]) (XX := noX) (c_X1_init l D cy (gN u42.1 q44 1 0) (mz (mwP u42.2 r0 8 (some q41)) q44) q44 isK_N) (fun _ _ => trivial) (fun _ _ _ _ h => h) (gzN wc_X1_init) rfl rfl rfl (tb wn_X1) (tb wm_X8_65) (tb wi_X1_init) rfl (by decide +kernel) (by decide) rfl rfl hl.1 (Nat.le_of_ble_eq_true rfl) dX8_init_124 (by decide) (fun u45 H locs hp45 hm45 w => ?_)
  have hX := exm_C hX hm45 o_q44
  have g45_r0_3 : u45.2.2.2 r0 3 = some q4 := sm_get (hm45.2 r0 (isK_ext (ext_N n_q44) (isK_ext hm42.1 (isK_ext (ext_N n_q41) (isK_ext hm39.1 (isK_ext (ext_N n_q38) (isK_ext hm36.1 (isK_ext (ext_N n_q35) (isK_ext hm33.1 (isK_ext (ext_N n_q32) (isK_ext hm30.1 (isK_ext (ext_N n_q29) (isK_ext hm26.1 (isK_ext (ext_N n_q25) (isK_ext hm22.1 (isK_ext (ext_N n_q21) (isK_ext hm18.1 (isK_ext (ext_N n_q17) (isK_ext hm14.1 (isK_ext (ext_N n_q13) (isK_ext hm10.1 (isK_ext (ext_N n_q9) (isK_ext hm6.1 (isK_ext (ext_N n_q5) (isK_ext (ext_N n_q4) (isK_ext (ext_N n_q3) (isK_ext hm2.1 (isK_ext (ext_N n_q1) ha))))))))))))))))))))))))))).1 (fun e => o_q44 (e ▸ ha.1))) g44_r0_3
  refine zpF X w hin 8 9 66 tyX8 (C := RX8) (T := TX8) (N := 10) rfl ui_X8 tyX8_ok nmX8 (by decide) rfl (tb wf_X8_66) rfl rfl rfl rfl dX8_init_127 (isK_ext hm45.1 (isK_ext (ext_N n_q44) (isK_ext hm42.1 (isK_ext (ext_N n_q41) (isK_ext hm39.1 (isK_ext (ext_N n_q38) (isK_ext hm36.1 (isK_ext (ext_N n_q35) (isK_ext hm33.1 (isK_ext (ext_N n_q32) (isK_ext hm30.1 (isK_ext (ext_N n_q29) (isK_ext hm26.1 (isK_ext (ext_N n_q25) (isK_ext hm22.1 (isK_ext (ext_N n_q21) (isK_ext hm18.1 (isK_ext (ext_N n_q17) (isK_ext hm14.1 (isK_ext (ext_N n_q13) (isK_ext hm10.1 (isK_ext (ext_N n_q9) (isK_ext hm6.1 (isK_ext (ext_N n_q5) (isK_ext (ext_N n_q4) (isK_ext (ext_N n_q3) (isK_ext hm2.1 (isK_ext (ext_N n_q1) ha)))))))))))))))))))))))))))) (fun H locs w => ?_)
  have hX := exm_w hX (fun _ _ h => h) (mwP_o (M := u45.2) (a := r0) (k := 9) (x := some q44))
  have g46_r0_3 : (mwP u45.2 r0 9 (some q44)).2.2 r0 3 = some q4 := mwP_nf g45_r0_3 (by decide)
  refine W.widen (k := 52) (n := 1194) (by decide) (by decide) ?_
  exact zrN X hr hlk w ⟨q1, n_q1, u2, hp2, q3, n_q3, q4, n_q4, q5, n_q5, u6, hp6, q9, n_q9, u10, hp10, q13, n_q13, u14, hp14, q17, n_q17, u18, hp18, q21, n_q21, u22, hp22, q25, n_q25, u26, hp26, q29, n_q29, u30, hp30, q32, n_q32, u33, hp33, q35, n_q35, u36, hp36, q38, n_q38, u39, hp39, q41, n_q41, u42, hp42, q44, n_q44, u45, hp45, rfl⟩ hX dX8_init_130
abbrev rm_X9_init : Room := { frames := 1, cells := 16, slots := 862, locals := 12 }
set_option maxHeartbeats 4000000 in
set_option maxRecDepth 100000 in
theorem c_X9_init (l : Launch) (D : va_G) (cy : Cyy) (G : Gg) (M : Mm) (r0 : Nat) (ha : isK G r0 9) : CN l yX9_init wz_X9_init rm_X9_init D cy G M r0 16 862 noX (ri_X9 G M r0) := by
  refine CN_of (cc := cX9_init) (nL := 1) (own := RX9) (by decide) rfl rfl rfl (Nat.le_of_ble_eq_true rfl) ?_
  intro p e s m args below meth c A ls X hr hlk hin hXX w hl
  have hx := X.1.1
  have hb := X.1.2.1
  have hX : exm G M r0 (G, M) := exm_rf G M r0
  refine lv_aload_n hx hb dX9_init_0 rfl (lv_at hl 0 rfl) ?_
  refine zobj X hl.1 (tb wo_X9_1) (tb wob) (tb woc) dX9_init_1 (by decide) (Nat.le_of_ble_eq_true rfl) ?_
  refine lv_aload_n hx hb dX9_init_4 rfl (lv_at hl 0 rfl) ?_
  refine lv_bipush (v := 80) hx hb dX9_init_5 (by decide) ?_
  refine zAi X w (tb wai) 80 (by decide) (by decide) (by decide) (by decide) (by decide) dX9_init_7 (fun q1 H n_q1 w => ?_)
  have o_q1 : q1 ∉ G.1 := fun h => n_q1 ((hX.1 _ h).1)
  have hX := exm_N (k := 10) (n := 80) hX n_q1
  refine zpF X w hin 9 1 7 tyX9 (C := RX9) (T := TX9) (N := 23) rfl ui_X9 tyX9_ok nmX9 (by decide) rfl (tb wf_X9_7) rfl rfl rfl rfl dX9_init_9 (isK_ext (ext_N n_q1) ha) (fun H locs w => ?_)
  have hX := exm_w hX (fun _ _ h => h) (mwP_o (M := (mz M q1)) (a := r0) (k := 1) (x := some q1))
  refine lv_aload_n hx hb dX9_init_12 rfl (lv_at hl 0 rfl) ?_
  refine lv_bipush (v := 7) hx hb dX9_init_13 (by decide) ?_
  refine zAi X w (tb wai) 7 (by decide) (by decide) (by decide) (by decide) (by decide) dX9_init_15 (fun q2 H n_q2 w => ?_)
  have o_q2 : q2 ∉ G.1 := fun h => n_q2 ((hX.1 _ h).1)
  have hX := exm_N (k := 10) (n := 7) hX n_q2
  refine zpF X w hin 9 3 13 tyX9 (C := RX9) (T := TX9) (N := 23) rfl ui_X9 tyX9_ok nmX9 (by decide) rfl (tb wf_X9_13) rfl rfl rfl rfl dX9_init_17 (isK_ext (ext_N n_q2) (isK_ext (ext_N n_q1) ha)) (fun H locs w => ?_)
  have hX := exm_w hX (fun _ _ h => h) (mwP_o (M := (mz (mwP (mz M q1) r0 1 (some q1)) q2)) (a := r0) (k := 3) (x := some q2))
  refine lv_aload_n hx hb dX9_init_20 rfl (lv_at hl 0 rfl) ?_
  refine lv_bipush (v := 7) hx hb dX9_init_21 (by decide) ?_
  refine zAi X w (tb wai) 7 (by decide) (by decide) (by decide) (by decide) (by decide) dX9_init_23 (fun q3 H n_q3 w => ?_)
  have o_q3 : q3 ∉ G.1 := fun h => n_q3 ((hX.1 _ h).1)
  have hX := exm_N (k := 10) (n := 7) hX n_q3
  refine zpF X w hin 9 4 16 tyX9 (C := RX9) (T := TX9) (N := 23) rfl ui_X9 tyX9_ok nmX9 (by decide) rfl (tb wf_X9_16) rfl rfl rfl rfl dX9_init_25 (isK_ext (ext_N n_q3) (isK_ext (ext_N n_q2) (isK_ext (ext_N n_q1) ha))) (fun H locs w => ?_)
  have hX := exm_w hX (fun _ _ h => h) (mwP_o (M := (mz (mwP (mz (mwP (mz M q1) r0 1 (some q1)) q2) r0 3 (some q2)) q3)) (a := r0) (k := 4) (x := some q3))
  refine lv_aload_n hx hb dX9_init_28 rfl (lv_at hl 0 rfl) ?_
  refine lv_sipush (v := 448) hx hb dX9_init_29 (by decide) ?_
  refine zAi X w (tb wai) 448 (by decide) (by decide) (by decide) (by decide) (by decide) dX9_init_32 (fun q4 H n_q4 w => ?_)
  have o_q4 : q4 ∉ G.1 := fun h => n_q4 ((hX.1 _ h).1)
  have hX := exm_N (k := 10) (n := 448) hX n_q4
  refine zpF X w hin 9 5 19 tyX9 (C := RX9) (T := TX9) (N := 23) rfl ui_X9 tyX9_ok nmX9 (by decide) rfl (tb wf_X9_19) rfl rfl rfl rfl dX9_init_34 (isK_ext (ext_N n_q4) (isK_ext (ext_N n_q3) (isK_ext (ext_N n_q2) (isK_ext (ext_N n_q1) ha)))) (fun H locs w => ?_)
  have hX := exm_w hX (fun _ _ h => h) (mwP_o (M := (mz (mwP (mz (mwP (mz (mwP (mz M q1) r0 1 (some q1)) q2) r0 3 (some q2)) q3) r0 4 (some q3)) q4)) (a := r0) (k := 5) (x := some q4))
  refine lv_aload_n hx hb dX9_init_37 rfl (lv_at hl 0 rfl) ?_
  refine lv_bipush (v := 8) hx hb dX9_init_38 (by decide) ?_
  refine zAi X w (tb wai) 8 (by decide) (by decide) (by decide) (by decide) (by decide) dX9_init_40 (fun q5 H n_q5 w => ?_)
  have o_q5 : q5 ∉ G.1 := fun h => n_q5 ((hX.1 _ h).1)
  have hX := exm_N (k := 10) (n := 8) hX n_q5
  refine zpF X w hin 9 6 22 tyX9 (C := RX9) (T := TX9) (N := 23) rfl ui_X9 tyX9_ok nmX9 (by decide) rfl (tb wf_X9_22) rfl rfl rfl rfl dX9_init_42 (isK_ext (ext_N n_q5) (isK_ext (ext_N n_q4) (isK_ext (ext_N n_q3) (isK_ext (ext_N n_q2) (isK_ext (ext_N n_q1) ha))))) (fun H locs w => ?_)
  have hX := exm_w hX (fun _ _ h => h) (mwP_o (M := (mz (mwP (mz (mwP (mz (mwP (mz (mwP (mz M q1) r0 1 (some q1)) q2) r0 3 (some q2)) q3) r0 4 (some q3)) q4) r0 5 (some q4)) q5)) (a := r0) (k := 6) (x := some q5))
  refine lv_aload_n hx hb dX9_init_45 rfl (lv_at hl 0 rfl) ?_
  refine lv_bipush (v := 8) hx hb dX9_init_46 (by decide) ?_
  refine zAi X w (tb wai) 8 (by decide) (by decide) (by decide) (by decide) (by decide) dX9_init_48 (fun q6 H n_q6 w => ?_)
  have o_q6 : q6 ∉ G.1 := fun h => n_q6 ((hX.1 _ h).1)
  have hX := exm_N (k := 10) (n := 8) hX n_q6
  refine zpF X w hin 9 7 25 tyX9 (C := RX9) (T := TX9) (N := 23) rfl ui_X9 tyX9_ok nmX9 (by decide) rfl (tb wf_X9_25) rfl rfl rfl rfl dX9_init_50 (isK_ext (ext_N n_q6) (isK_ext (ext_N n_q5) (isK_ext (ext_N n_q4) (isK_ext (ext_N n_q3) (isK_ext (ext_N n_q2) (isK_ext (ext_N n_q1) ha)))))) (fun H locs w => ?_)
  have hX := exm_w hX (fun _ _ h => h) (mwP_o (M := (mz (mwP (mz (mwP (mz (mwP (mz (mwP (mz (mwP (mz M q1) r0 1 (some q1)) q2) r0 3 (some q2)) q3) r0 4 (some q3)) q4) r0 5 (some q4)) q5) r0 6 (some q5)) q6)) (a := r0) (k := 7) (x := some q6))
  refine lv_aload_n hx hb dX9_init_53 rfl (lv_at hl 0 rfl) ?_
  refine lv_bipush (v := 64) hx hb dX9_init_54 (by decide) ?_
  refine zAl X w (tb wal) 64 (by decide) (by decide) (by decide) (by decide) (by decide) dX9_init_56 (fun q7 H n_q7 w => ?_)
  have o_q7 : q7 ∉ G.1 := fun h => n_q7 ((hX.1 _ h).1)
  have hX := exm_N (k := 11) (n := 64) hX n_q7
  refine zpF X w hin 9 9 28 tyX9 (C := RX9) (T := TX9) (N := 23) rfl ui_X9 tyX9_ok nmX9 (by decide) rfl (tb wf_X9_28) rfl rfl rfl rfl dX9_init_58 (isK_ext (ext_N n_q7) (isK_ext (ext_N n_q6) (isK_ext (ext_N n_q5) (isK_ext (ext_N n_q4) (isK_ext (ext_N n_q3) (isK_ext (ext_N n_q2) (isK_ext (ext_N n_q1) ha))))))) (fun H locs w => ?_)
  have hX := exm_w hX (fun _ _ h => h) (mwP_o (M := (mz (mwP (mz (mwP (mz (mwP (mz (mwP (mz (mwP (mz (mwP (mz M q1) r0 1 (some q1)) q2) r0 3 (some q2)) q3) r0 4 (some q3)) q4) r0 5 (some q4)) q5) r0 6 (some q5)) q6) r0 7 (some q6)) q7)) (a := r0) (k := 9) (x := some q7))
  refine lv_aload_n hx hb dX9_init_61 rfl (lv_at hl 0 rfl) ?_
  refine lv_bipush (v := 8) hx hb dX9_init_62 (by decide) ?_
  refine zAl X w (tb wal) 8 (by decide) (by decide) (by decide) (by decide) (by decide) dX9_init_64 (fun q8 H n_q8 w => ?_)
  have o_q8 : q8 ∉ G.1 := fun h => n_q8 ((hX.1 _ h).1)
  have hX := exm_N (k := 11) (n := 8) hX n_q8
  refine zpF X w hin 9 10 32 tyX9 (C := RX9) (T := TX9) (N := 23) rfl ui_X9 tyX9_ok nmX9 (by decide) rfl (tb wf_X9_32) rfl rfl rfl rfl dX9_init_66 (isK_ext (ext_N n_q8) (isK_ext (ext_N n_q7) (isK_ext (ext_N n_q6) (isK_ext (ext_N n_q5) (isK_ext (ext_N n_q4) (isK_ext (ext_N n_q3) (isK_ext (ext_N n_q2) (isK_ext (ext_N n_q1) ha)))))))) (fun H locs w => ?_)
  have hX := exm_w hX (fun _ _ h => h) (mwP_o (M := (mz (mwP (mz (mwP (mz (mwP (mz (mwP (mz (mwP (mz (mwP (mz (mwP (mz M q1) r0 1 (some q1)) q2) r0 3 (some q2)) q3) r0 4 (some q3)) q4) r0 5 (some q4)) q5) r0 6 (some q5)) q6) r0 7 (some q6)) q7) r0 9 (some q7)) q8)) (a := r0) (k := 10) (x := some q8))
  refine lv_aload_n hx hb dX9_init_69 rfl (lv_at hl 0 rfl) ?_
  refine lv_bipush (v := 64) hx hb dX9_init_70 (by decide) ?_
  refine zAl X w (tb wal) 64 (by decide) (by decide) (by decide) (by decide) (by decide) dX9_init_72 (fun q9 H n_q9 w => ?_)
  have o_q9 : q9 ∉ G.1 := fun h => n_q9 ((hX.1 _ h).1)
  have hX := exm_N (k := 11) (n := 64) hX n_q9
  refine zpF X w hin 9 11 35 tyX9 (C := RX9) (T := TX9) (N := 23) rfl ui_X9 tyX9_ok nmX9 (by decide) rfl (tb wf_X9_35) rfl rfl rfl rfl dX9_init_74 (isK_ext (ext_N n_q9) (isK_ext (ext_N n_q8) (isK_ext (ext_N n_q7) (isK_ext (ext_N n_q6) (isK_ext (ext_N n_q5) (isK_ext (ext_N n_q4) (isK_ext (ext_N n_q3) (isK_ext (ext_N n_q2) (isK_ext (ext_N n_q1) ha))))))))) (fun H locs w => ?_)
  have hX := exm_w hX (fun _ _ h => h) (mwP_o (M := (mz (mwP (mz (mwP (mz (mwP (mz (mwP (mz (mwP (mz (mwP (mz (mwP (mz (mwP (mz M q1) r0 1 (some q1)) q2) r0 3 (some q2)) q3) r0 4 (some q3)) q4) r0 5 (some q4)) q5) r0 6 (some q5)) q6) r0 7 (some q6)) q7) r0 9 (some q7)) q8) r0 10 (some q8)) q9)) (a := r0) (k := 11) (x := some q9))
  refine lv_aload_n hx hb dX9_init_77 rfl (lv_at hl 0 rfl) ?_
  refine lv_bipush (v := 8) hx hb dX9_init_78 (by decide) ?_
  refine zAl X w (tb wal) 8 (by decide) (by decide) (by decide) (by decide) (by decide) dX9_init_80 (fun q10 H n_q10 w => ?_)
  have o_q10 : q10 ∉ G.1 := fun h => n_q10 ((hX.1 _ h).1)
  have hX := exm_N (k := 11) (n := 8) hX n_q10
  refine zpF X w hin 9 12 38 tyX9 (C := RX9) (T := TX9) (N := 23) rfl ui_X9 tyX9_ok nmX9 (by decide) rfl (tb wf_X9_38) rfl rfl rfl rfl dX9_init_82 (isK_ext (ext_N n_q10) (isK_ext (ext_N n_q9) (isK_ext (ext_N n_q8) (isK_ext (ext_N n_q7) (isK_ext (ext_N n_q6) (isK_ext (ext_N n_q5) (isK_ext (ext_N n_q4) (isK_ext (ext_N n_q3) (isK_ext (ext_N n_q2) (isK_ext (ext_N n_q1) ha)))))))))) (fun H locs w => ?_)
  have hX := exm_w hX (fun _ _ h => h) (mwP_o (M := (mz (mwP (mz (mwP (mz (mwP (mz (mwP (mz (mwP (mz (mwP (mz (mwP (mz (mwP (mz (mwP (mz M q1) r0 1 (some q1)) q2) r0 3 (some q2)) q3) r0 4 (some q3)) q4) r0 5 (some q4)) q5) r0 6 (some q5)) q6) r0 7 (some q6)) q7) r0 9 (some q7)) q8) r0 10 (some q8)) q9) r0 11 (some q9)) q10)) (a := r0) (k := 12) (x := some q10))
  refine lv_aload_n hx hb dX9_init_85 rfl (lv_at hl 0 rfl) ?_
  refine lv_bipush (v := 8) hx hb dX9_init_86 (by decide) ?_
  refine zAi X w (tb wai) 8 (by decide) (by decide) (by decide) (by decide) (by decide) dX9_init_88 (fun q11 H n_q11 w => ?_)
  have o_q11 : q11 ∉ G.1 := fun h => n_q11 ((hX.1 _ h).1)
  have hX := exm_N (k := 10) (n := 8) hX n_q11
  refine zpF X w hin 9 13 41 tyX9 (C := RX9) (T := TX9) (N := 23) rfl ui_X9 tyX9_ok nmX9 (by decide) rfl (tb wf_X9_41) rfl rfl rfl rfl dX9_init_90 (isK_ext (ext_N n_q11) (isK_ext (ext_N n_q10) (isK_ext (ext_N n_q9) (isK_ext (ext_N n_q8) (isK_ext (ext_N n_q7) (isK_ext (ext_N n_q6) (isK_ext (ext_N n_q5) (isK_ext (ext_N n_q4) (isK_ext (ext_N n_q3) (isK_ext (ext_N n_q2) (isK_ext (ext_N n_q1) ha))))))))))) (fun H locs w => ?_)
  have hX := exm_w hX (fun _ _ h => h) (mwP_o (M := (mz (mwP (mz (mwP (mz (mwP (mz (mwP (mz (mwP (mz (mwP (mz (mwP (mz (mwP (mz (mwP (mz (mwP (mz M q1) r0 1 (some q1)) q2) r0 3 (some q2)) q3) r0 4 (some q3)) q4) r0 5 (some q4)) q5) r0 6 (some q5)) q6) r0 7 (some q6)) q7) r0 9 (some q7)) q8) r0 10 (some q8)) q9) r0 11 (some q9)) q10) r0 12 (some q10)) q11)) (a := r0) (k := 13) (x := some q11))
  refine lv_aload_n hx hb dX9_init_93 rfl (lv_at hl 0 rfl) ?_
  refine lv_bipush (v := 8) hx hb dX9_init_94 (by decide) ?_
  refine zAi X w (tb wai) 8 (by decide) (by decide) (by decide) (by decide) (by decide) dX9_init_96 (fun q12 H n_q12 w => ?_)
  have o_q12 : q12 ∉ G.1 := fun h => n_q12 ((hX.1 _ h).1)
  have hX := exm_N (k := 10) (n := 8) hX n_q12
  refine zpF X w hin 9 14 44 tyX9 (C := RX9) (T := TX9) (N := 23) rfl ui_X9 tyX9_ok nmX9 (by decide) rfl (tb wf_X9_44) rfl rfl rfl rfl dX9_init_98 (isK_ext (ext_N n_q12) (isK_ext (ext_N n_q11) (isK_ext (ext_N n_q10) (isK_ext (ext_N n_q9) (isK_ext (ext_N n_q8) (isK_ext (ext_N n_q7) (isK_ext (ext_N n_q6) (isK_ext (ext_N n_q5) (isK_ext (ext_N n_q4) (isK_ext (ext_N n_q3) (isK_ext (ext_N n_q2) (isK_ext (ext_N n_q1) ha)))))))))))) (fun H locs w => ?_)
  have hX := exm_w hX (fun _ _ h => h) (mwP_o (M := (mz (mwP (mz (mwP (mz (mwP (mz (mwP (mz (mwP (mz (mwP (mz (mwP (mz (mwP (mz (mwP (mz (mwP (mz (mwP (mz M q1) r0 1 (some q1)) q2) r0 3 (some q2)) q3) r0 4 (some q3)) q4) r0 5 (some q4)) q5) r0 6 (some q5)) q6) r0 7 (some q6)) q7) r0 9 (some q7)) q8) r0 10 (some q8)) q9) r0 11 (some q9)) q10) r0 12 (some q10)) q11) r0 13 (some q11)) q12)) (a := r0) (k := 14) (x := some q12))
  refine lv_aload_n hx hb dX9_init_101 rfl (lv_at hl 0 rfl) ?_
  refine lv_bipush (v := 8) hx hb dX9_init_102 (by decide) ?_
  refine zAi X w (tb wai) 8 (by decide) (by decide) (by decide) (by decide) (by decide) dX9_init_104 (fun q13 H n_q13 w => ?_)
  have o_q13 : q13 ∉ G.1 := fun h => n_q13 ((hX.1 _ h).1)
  have hX := exm_N (k := 10) (n := 8) hX n_q13
  refine zpF X w hin 9 15 47 tyX9 (C := RX9) (T := TX9) (N := 23) rfl ui_X9 tyX9_ok nmX9 (by decide) rfl (tb wf_X9_47) rfl rfl rfl rfl dX9_init_106 (isK_ext (ext_N n_q13) (isK_ext (ext_N n_q12) (isK_ext (ext_N n_q11) (isK_ext (ext_N n_q10) (isK_ext (ext_N n_q9) (isK_ext (ext_N n_q8) (isK_ext (ext_N n_q7) (isK_ext (ext_N n_q6) (isK_ext (ext_N n_q5) (isK_ext (ext_N n_q4) (isK_ext (ext_N n_q3) (isK_ext (ext_N n_q2) (isK_ext (ext_N n_q1) ha))))))))))))) (fun H locs w => ?_)
  have hX := exm_w hX (fun _ _ h => h) (mwP_o (M := (mz (mwP (mz (mwP (mz (mwP (mz (mwP (mz (mwP (mz (mwP (mz (mwP (mz (mwP (mz (mwP (mz (mwP (mz (mwP (mz (mwP (mz M q1) r0 1 (some q1)) q2) r0 3 (some q2)) q3) r0 4 (some q3)) q4) r0 5 (some q4)) q5) r0 6 (some q5)) q6) r0 7 (some q6)) q7) r0 9 (some q7)) q8) r0 10 (some q8)) q9) r0 11 (some q9)) q10) r0 12 (some q10)) q11) r0 13 (some q11)) q12) r0 14 (some q12)) q13)) (a := r0) (k := 15) (x := some q13))
  refine lv_aload_n hx hb dX9_init_109 rfl (lv_at hl 0 rfl) ?_
  refine lv_bipush (v := 8) hx hb dX9_init_110 (by decide) ?_
  refine zAi X w (tb wai) 8 (by decide) (by decide) (by decide) (by decide) (by decide) dX9_init_112 (fun q14 H n_q14 w => ?_)
  have o_q14 : q14 ∉ G.1 := fun h => n_q14 ((hX.1 _ h).1)
  have hX := exm_N (k := 10) (n := 8) hX n_q14
  refine zpF X w hin 9 16 50 tyX9 (C := RX9) (T := TX9) (N := 23) rfl ui_X9 tyX9_ok nmX9 (by decide) rfl (tb wf_X9_50) rfl rfl rfl rfl dX9_init_114 (isK_ext (ext_N n_q14) (isK_ext (ext_N n_q13) (isK_ext (ext_N n_q12) (isK_ext (ext_N n_q11) (isK_ext (ext_N n_q10) (isK_ext (ext_N n_q9) (isK_ext (ext_N n_q8) (isK_ext (ext_N n_q7) (isK_ext (ext_N n_q6) (isK_ext (ext_N n_q5) (isK_ext (ext_N n_q4) (isK_ext (ext_N n_q3) (isK_ext (ext_N n_q2) (isK_ext (ext_N n_q1) ha)))))))))))))) (fun H locs w => ?_)
  have hX := exm_w hX (fun _ _ h => h) (mwP_o (M := (mz (mwP (mz (mwP (mz (mwP (mz (mwP (mz (mwP (mz (mwP (mz (mwP (mz (mwP (mz (mwP (mz (mwP (mz (mwP (mz (mwP (mz (mwP (mz M q1) r0 1 (some q1)) q2) r0 3 (some q2)) q3) r0 4 (some q3)) q4) r0 5 (some q4)) q5) r0 6 (some q5)) q6) r0 7 (some q6)) q7) r0 9 (some q7)) q8) r0 10 (some q8)) q9) r0 11 (some q9)) q10) r0 12 (some q10)) q11) r0 13 (some q11)) q12) r0 14 (some q12)) q13) r0 15 (some q13)) q14)) (a := r0) (k := 16) (x := some q14))
  refine lv_aload_n hx hb dX9_init_117 rfl (lv_at hl 0 rfl) ?_
  refine lv_bipush (v := 64) hx hb dX9_init_118 (by decide) ?_
  refine zAl X w (tb wal) 64 (by decide) (by decide) (by decide) (by decide) (by decide) dX9_init_120 (fun q15 H n_q15 w => ?_)
  have o_q15 : q15 ∉ G.1 := fun h => n_q15 ((hX.1 _ h).1)
  have hX := exm_N (k := 11) (n := 64) hX n_q15
  refine zpF X w hin 9 18 53 tyX9 (C := RX9) (T := TX9) (N := 23) rfl ui_X9 tyX9_ok nmX9 (by decide) rfl (tb wf_X9_53) rfl rfl rfl rfl dX9_init_122 (isK_ext (ext_N n_q15) (isK_ext (ext_N n_q14) (isK_ext (ext_N n_q13) (isK_ext (ext_N n_q12) (isK_ext (ext_N n_q11) (isK_ext (ext_N n_q10) (isK_ext (ext_N n_q9) (isK_ext (ext_N n_q8) (isK_ext (ext_N n_q7) (isK_ext (ext_N n_q6) (isK_ext (ext_N n_q5) (isK_ext (ext_N n_q4) (isK_ext (ext_N n_q3) (isK_ext (ext_N n_q2) (isK_ext (ext_N n_q1) ha))))))))))))))) (fun H locs w => ?_)
  have hX := exm_w hX (fun _ _ h => h) (mwP_o (M := (mz (mwP (mz (mwP (mz (mwP (mz (mwP (mz (mwP (mz (mwP (mz (mwP (mz (mwP (mz (mwP (mz (mwP (mz (mwP (mz (mwP (mz (mwP (mz (mwP (mz M q1) r0 1 (some q1)) q2) r0 3 (some q2)) q3) r0 4 (some q3)) q4) r0 5 (some q4)) q5) r0 6 (some q5)) q6) r0 7 (some q6)) q7) r0 9 (some q7)) q8) r0 10 (some q8)) q9) r0 11 (some q9)) q10) r0 12 (some q10)) q11) r0 13 (some q11)) q12) r0 14 (some q12)) q13) r0 15 (some q13)) q14) r0 16 (some q14)) q15)) (a := r0) (k := 18) (x := some q15))
  refine lv_aload_n hx hb dX9_init_125 rfl (lv_at hl 0 rfl) ?_
  refine lv_bipush (v := 64) hx hb dX9_init_126 (by decide) ?_
  refine zAl X w (tb wal) 64 (by decide) (by decide) (by decide) (by decide) (by decide) dX9_init_128 (fun q16 H n_q16 w => ?_)
  have o_q16 : q16 ∉ G.1 := fun h => n_q16 ((hX.1 _ h).1)
  have hX := exm_N (k := 11) (n := 64) hX n_q16
  refine zpF X w hin 9 19 56 tyX9 (C := RX9) (T := TX9) (N := 23) rfl ui_X9 tyX9_ok nmX9 (by decide) rfl (tb wf_X9_56) rfl rfl rfl rfl dX9_init_130 (isK_ext (ext_N n_q16) (isK_ext (ext_N n_q15) (isK_ext (ext_N n_q14) (isK_ext (ext_N n_q13) (isK_ext (ext_N n_q12) (isK_ext (ext_N n_q11) (isK_ext (ext_N n_q10) (isK_ext (ext_N n_q9) (isK_ext (ext_N n_q8) (isK_ext (ext_N n_q7) (isK_ext (ext_N n_q6) (isK_ext (ext_N n_q5) (isK_ext (ext_N n_q4) (isK_ext (ext_N n_q3) (isK_ext (ext_N n_q2) (isK_ext (ext_N n_q1) ha)))))))))))))))) (fun H locs w => ?_)
  have hX := exm_w hX (fun _ _ h => h) (mwP_o (M := (mz (mwP (mz (mwP (mz (mwP (mz (mwP (mz (mwP (mz (mwP (mz (mwP (mz (mwP (mz (mwP (mz (mwP (mz (mwP (mz (mwP (mz (mwP (mz (mwP (mz (mwP (mz M q1) r0 1 (some q1)) q2) r0 3 (some q2)) q3) r0 4 (some q3)) q4) r0 5 (some q4)) q5) r0 6 (some q5)) q6) r0 7 (some q6)) q7) r0 9 (some q7)) q8) r0 10 (some q8)) q9) r0 11 (some q9)) q10) r0 12 (some q10)) q11) r0 13 (some q11)) q12) r0 14 (some q12)) q13) r0 15 (some q13)) q14) r0 16 (some q14)) q15) r0 18 (some q15)) q16)) (a := r0) (k := 19) (x := some q16))
  refine W.widen (k := 16) (n := 862) (by decide) (by decide) ?_
  exact zrN X hr hlk w ⟨q1, n_q1, q2, n_q2, q3, n_q3, q4, n_q4, q5, n_q5, q6, n_q6, q7, n_q7, q8, n_q8, q9, n_q9, q10, n_q10, q11, n_q11, q12, n_q12, q13, n_q13, q14, n_q14, q15, n_q15, q16, n_q16, rfl⟩ hX dX9_init_133
