/-! the class's constructors -/
theorem oiI : Cond.instanceMethod objectInit ∈ tbl := tb_in 78 (by decide +kernel) rfl
theorem oiC : Cond.code Lib.objectInit ⟨#[0xb1]⟩ 1 none ∈ tbl := tb_in 79 (by decide +kernel) rfl
theorem acI : Cond.arrayClass .int ∈ tbl := tb_in 198 (by decide +kernel) rfl
theorem acB : Cond.arrayClass .byte ∈ tbl := tb_in 108 (by decide +kernel) rfl
theorem acZ : Cond.arrayClass .boolean ∈ tbl := tb_in 513 (by decide +kernel) rfl
theorem in_11 : Cond.instantiable RX11 12 ∈ tbl := tb_in 73 (by decide +kernel) rfl
theorem ini_11 : Cond.initialized RX11 ∈ tbl := tb_in 52 (by decide +kernel) rfl
theorem dv_11 : ∀ j, j < 12 → defaultValue (tyX11 j) = if fR 11 j = true then .null else .int 0 := by decide +kernel
theorem im_11 : Cond.instanceMethod yX11_init ∈ tbl := tb_in 75 (by decide +kernel) rfl
theorem cls_11 : ∀ k, (fR 11 k && decide (k < nf 11)) = true → k = 0 ∨ k = 1 ∨ k = 2 ∨ k = 3 ∨ k = 4 ∨ k = 5 ∨ k = 6 ∨ k = 7 ∨ k = 8 ∨ k = 9 ∨ k = 10 ∨ k = 11 := by
  intro k hk
  have h2 : k < 12 := by
    have h3 := (Bool.and_eq_true _ _ ▸ hk).2
    exact of_decide_eq_true h3
  have h4 : k = 0 ∨ k = 1 ∨ k = 2 ∨ k = 3 ∨ k = 4 ∨ k = 5 ∨ k = 6 ∨ k = 7 ∨ k = 8 ∨ k = 9 ∨ k = 10 ∨ k = 11 := by omega
  rcases h4 with rfl | rfl | rfl | rfl | rfl | rfl | rfl | rfl | rfl | rfl | rfl | rfl <;> first | exact absurd hk (by decide) | simp
theorem oi_11 : Cond.methodLink RX11 1 objectInit ∈ tbl := tb_in 77 (by decide +kernel) rfl
theorem cl_11_7 : Cond.classLink RX11 7 RX9 ∈ tbl := tb_in 80 (by decide +kernel) rfl
theorem in_9 : Cond.instantiable RX9 6 ∈ tbl := tb_in 81 (by decide +kernel) rfl
theorem ini_9 : Cond.initialized RX9 ∈ tbl := tb_in 53 (by decide +kernel) rfl
theorem dv_9 : ∀ j, j < 6 → defaultValue (tyX9 j) = if fR 9 j = true then .null else .int 0 := by decide +kernel
theorem im_9 : Cond.instanceMethod yX9_init ∈ tbl := tb_in 83 (by decide +kernel) rfl
theorem cls_9 : ∀ k, (fR 9 k && decide (k < nf 9)) = true → k = 0 := by
  intro k hk
  have h2 : k < 6 := by
    have h3 := (Bool.and_eq_true _ _ ▸ hk).2
    exact of_decide_eq_true h3
  have h4 : k = 0 ∨ k = 1 ∨ k = 2 ∨ k = 3 ∨ k = 4 ∨ k = 5 := by omega
  rcases h4 with rfl | rfl | rfl | rfl | rfl | rfl <;> first | exact absurd hk (by decide) | simp
theorem oi_9 : Cond.methodLink RX9 3 objectInit ∈ tbl := tb_in 85 (by decide +kernel) rfl
theorem cl_11_16 : Cond.classLink RX11 16 RX5 ∈ tbl := tb_in 109 (by decide +kernel) rfl
theorem in_5 : Cond.instantiable RX5 5 ∈ tbl := tb_in 110 (by decide +kernel) rfl
theorem ini_5 : Cond.initialized RX5 ∈ tbl := tb_in 54 (by decide +kernel) rfl
theorem dv_5 : ∀ j, j < 5 → defaultValue (tyX5 j) = if fR 5 j = true then .null else .int 0 := by decide +kernel
theorem im_5 : Cond.instanceMethod yX5_init ∈ tbl := tb_in 112 (by decide +kernel) rfl
theorem cls_5 : ∀ k, (fR 5 k && decide (k < nf 5)) = true → k = 0 ∨ k = 1 ∨ k = 2 := by
  intro k hk
  have h2 : k < 5 := by
    have h3 := (Bool.and_eq_true _ _ ▸ hk).2
    exact of_decide_eq_true h3
  have h4 : k = 0 ∨ k = 1 ∨ k = 2 ∨ k = 3 ∨ k = 4 := by omega
  rcases h4 with rfl | rfl | rfl | rfl | rfl <;> first | exact absurd hk (by decide) | simp
theorem oi_5 : Cond.methodLink RX5 3 objectInit ∈ tbl := tb_in 114 (by decide +kernel) rfl
theorem cl_5_9 : Cond.classLink RX5 9 RX6 ∈ tbl := tb_in 115 (by decide +kernel) rfl
theorem in_6 : Cond.instantiable RX6 12 ∈ tbl := tb_in 116 (by decide +kernel) rfl
theorem ini_6 : Cond.initialized RX6 ∈ tbl := tb_in 55 (by decide +kernel) rfl
theorem dv_6 : ∀ j, j < 12 → defaultValue (tyX6 j) = if fR 6 j = true then .null else .int 0 := by decide +kernel
theorem im_6 : Cond.instanceMethod yX6_init ∈ tbl := tb_in 118 (by decide +kernel) rfl
theorem cls_6 : ∀ k, (fR 6 k && decide (k < nf 6)) = true → k = 7 ∨ k = 8 ∨ k = 9 ∨ k = 10 ∨ k = 11 := by
  intro k hk
  have h2 : k < 12 := by
    have h3 := (Bool.and_eq_true _ _ ▸ hk).2
    exact of_decide_eq_true h3
  have h4 : k = 0 ∨ k = 1 ∨ k = 2 ∨ k = 3 ∨ k = 4 ∨ k = 5 ∨ k = 6 ∨ k = 7 ∨ k = 8 ∨ k = 9 ∨ k = 10 ∨ k = 11 := by omega
  rcases h4 with rfl | rfl | rfl | rfl | rfl | rfl | rfl | rfl | rfl | rfl | rfl | rfl <;> first | exact absurd hk (by decide) | simp
theorem oi_6 : Cond.methodLink RX6 3 objectInit ∈ tbl := tb_in 120 (by decide +kernel) rfl
theorem cl_5_18 : Cond.classLink RX5 18 RX8 ∈ tbl := tb_in 199 (by decide +kernel) rfl
theorem in_8 : Cond.instantiable RX8 12 ∈ tbl := tb_in 200 (by decide +kernel) rfl
theorem ini_8 : Cond.initialized RX8 ∈ tbl := tb_in 56 (by decide +kernel) rfl
theorem dv_8 : ∀ j, j < 12 → defaultValue (tyX8 j) = if fR 8 j = true then .null else .int 0 := by decide +kernel
theorem im_8 : Cond.instanceMethod yX8_init ∈ tbl := tb_in 202 (by decide +kernel) rfl
theorem cls_8 : ∀ k, (fR 8 k && decide (k < nf 8)) = true → k = 2 ∨ k = 3 ∨ k = 4 ∨ k = 5 ∨ k = 6 ∨ k = 7 ∨ k = 8 ∨ k = 9 ∨ k = 10 ∨ k = 11 := by
  intro k hk
  have h2 : k < 12 := by
    have h3 := (Bool.and_eq_true _ _ ▸ hk).2
    exact of_decide_eq_true h3
  have h4 : k = 0 ∨ k = 1 ∨ k = 2 ∨ k = 3 ∨ k = 4 ∨ k = 5 ∨ k = 6 ∨ k = 7 ∨ k = 8 ∨ k = 9 ∨ k = 10 ∨ k = 11 := by omega
  rcases h4 with rfl | rfl | rfl | rfl | rfl | rfl | rfl | rfl | rfl | rfl | rfl | rfl <;> first | exact absurd hk (by decide) | simp
theorem oi_8 : Cond.methodLink RX8 3 objectInit ∈ tbl := tb_in 204 (by decide +kernel) rfl
theorem cl_8_39 : Cond.classLink RX8 39 RX3 ∈ tbl := tb_in 205 (by decide +kernel) rfl
theorem in_3 : Cond.instantiable RX3 6 ∈ tbl := tb_in 206 (by decide +kernel) rfl
theorem ini_3 : Cond.initialized RX3 ∈ tbl := tb_in 57 (by decide +kernel) rfl
theorem dv_3 : ∀ j, j < 6 → defaultValue (tyX3 j) = if fR 3 j = true then .null else .int 0 := by decide +kernel
theorem im_3 : Cond.instanceMethod yX3_init ∈ tbl := tb_in 208 (by decide +kernel) rfl
theorem cls_3 : ∀ k, (fR 3 k && decide (k < nf 3)) = true → k = 3 ∨ k = 4 ∨ k = 5 := by
  intro k hk
  have h2 : k < 6 := by
    have h3 := (Bool.and_eq_true _ _ ▸ hk).2
    exact of_decide_eq_true h3
  have h4 : k = 0 ∨ k = 1 ∨ k = 2 ∨ k = 3 ∨ k = 4 ∨ k = 5 := by omega
  rcases h4 with rfl | rfl | rfl | rfl | rfl | rfl <;> first | exact absurd hk (by decide) | simp
theorem oi_3 : Cond.methodLink RX3 3 objectInit ∈ tbl := tb_in 210 (by decide +kernel) rfl
theorem cl_11_25 : Cond.classLink RX11 25 RX6 ∈ tbl := tb_in 320 (by decide +kernel) rfl
theorem cl_11_32 : Cond.classLink RX11 32 RX8 ∈ tbl := tb_in 322 (by decide +kernel) rfl
theorem cl_11_39 : Cond.classLink RX11 39 RX10 ∈ tbl := tb_in 324 (by decide +kernel) rfl
theorem in_10 : Cond.instantiable RX10 2 ∈ tbl := tb_in 325 (by decide +kernel) rfl
theorem ini_10 : Cond.initialized RX10 ∈ tbl := tb_in 58 (by decide +kernel) rfl
theorem dv_10 : ∀ j, j < 2 → defaultValue (tyX10 j) = if fR 10 j = true then .null else .int 0 := by decide +kernel
theorem im_10 : Cond.instanceMethod yX10_init ∈ tbl := tb_in 327 (by decide +kernel) rfl
theorem cls_10 : ∀ k, (fR 10 k && decide (k < nf 10)) = true → k = 0 ∨ k = 1 := by
  intro k hk
  have h2 : k < 2 := by
    have h3 := (Bool.and_eq_true _ _ ▸ hk).2
    exact of_decide_eq_true h3
  have h4 : k = 0 ∨ k = 1 := by omega
  rcases h4 with rfl | rfl <;> first | exact absurd hk (by decide) | simp
theorem oi_10 : Cond.methodLink RX10 3 objectInit ∈ tbl := tb_in 329 (by decide +kernel) rfl
theorem cl_11_48 : Cond.classLink RX11 48 RX4 ∈ tbl := tb_in 337 (by decide +kernel) rfl
theorem in_4 : Cond.instantiable RX4 4 ∈ tbl := tb_in 338 (by decide +kernel) rfl
theorem ini_4 : Cond.initialized RX4 ∈ tbl := tb_in 59 (by decide +kernel) rfl
theorem dv_4 : ∀ j, j < 4 → defaultValue (tyX4 j) = if fR 4 j = true then .null else .int 0 := by decide +kernel
theorem im_4 : Cond.instanceMethod yX4_init ∈ tbl := tb_in 340 (by decide +kernel) rfl
theorem cls_4 : ∀ k, (fR 4 k && decide (k < nf 4)) = true → k = 0 ∨ k = 1 ∨ k = 2 ∨ k = 3 := by
  intro k hk
  have h2 : k < 4 := by
    have h3 := (Bool.and_eq_true _ _ ▸ hk).2
    exact of_decide_eq_true h3
  have h4 : k = 0 ∨ k = 1 ∨ k = 2 ∨ k = 3 := by omega
  rcases h4 with rfl | rfl | rfl | rfl <;> first | exact absurd hk (by decide) | simp
theorem oi_4 : Cond.methodLink RX4 3 objectInit ∈ tbl := tb_in 342 (by decide +kernel) rfl
theorem cl_11_55 : Cond.classLink RX11 55 RX7 ∈ tbl := tb_in 356 (by decide +kernel) rfl
theorem in_7 : Cond.instantiable RX7 2 ∈ tbl := tb_in 357 (by decide +kernel) rfl
theorem ini_7 : Cond.initialized RX7 ∈ tbl := tb_in 60 (by decide +kernel) rfl
theorem dv_7 : ∀ j, j < 2 → defaultValue (tyX7 j) = if fR 7 j = true then .null else .int 0 := by decide +kernel
theorem im_7 : Cond.instanceMethod yX7_init ∈ tbl := tb_in 359 (by decide +kernel) rfl
theorem cls_7 : ∀ k, (fR 7 k && decide (k < nf 7)) = true → k = 0 := by
  intro k hk
  have h2 : k < 2 := by
    have h3 := (Bool.and_eq_true _ _ ▸ hk).2
    exact of_decide_eq_true h3
  have h4 : k = 0 ∨ k = 1 := by omega
  rcases h4 with rfl | rfl <;> first | exact absurd hk (by decide) | simp
theorem oi_7 : Cond.methodLink RX7 3 objectInit ∈ tbl := tb_in 361 (by decide +kernel) rfl
theorem cl_11_62 : Cond.classLink RX11 62 RX1 ∈ tbl := tb_in 371 (by decide +kernel) rfl
theorem in_1 : Cond.instantiable RX1 10 ∈ tbl := tb_in 372 (by decide +kernel) rfl
theorem ini_1 : Cond.initialized RX1 ∈ tbl := tb_in 61 (by decide +kernel) rfl
theorem dv_1 : ∀ j, j < 10 → defaultValue (tyX1 j) = if fR 1 j = true then .null else .int 0 := by decide +kernel
theorem im_1 : Cond.instanceMethod yX1_init ∈ tbl := tb_in 374 (by decide +kernel) rfl
theorem cls_1 : ∀ k, (fR 1 k && decide (k < nf 1)) = true → k = 0 ∨ k = 1 ∨ k = 2 ∨ k = 3 ∨ k = 4 ∨ k = 5 ∨ k = 6 := by
  intro k hk
  have h2 : k < 10 := by
    have h3 := (Bool.and_eq_true _ _ ▸ hk).2
    exact of_decide_eq_true h3
  have h4 : k = 0 ∨ k = 1 ∨ k = 2 ∨ k = 3 ∨ k = 4 ∨ k = 5 ∨ k = 6 ∨ k = 7 ∨ k = 8 ∨ k = 9 := by omega
  rcases h4 with rfl | rfl | rfl | rfl | rfl | rfl | rfl | rfl | rfl | rfl <;> first | exact absurd hk (by decide) | simp
theorem oi_1 : Cond.methodLink RX1 3 objectInit ∈ tbl := tb_in 376 (by decide +kernel) rfl
theorem cl_1_9 : Cond.classLink RX1 9 RX7 ∈ tbl := tb_in 377 (by decide +kernel) rfl
theorem cl_11_71 : Cond.classLink RX11 71 RX0 ∈ tbl := tb_in 413 (by decide +kernel) rfl
theorem in_0 : Cond.instantiable RX0 11 ∈ tbl := tb_in 414 (by decide +kernel) rfl
theorem ini_0 : Cond.initialized RX0 ∈ tbl := tb_in 62 (by decide +kernel) rfl
theorem dv_0 : ∀ j, j < 11 → defaultValue (tyX0 j) = if fR 0 j = true then .null else .int 0 := by decide +kernel
theorem im_0 : Cond.instanceMethod yX0_init ∈ tbl := tb_in 416 (by decide +kernel) rfl
theorem cls_0 : ∀ k, (fR 0 k && decide (k < nf 0)) = true → k = 0 ∨ k = 1 ∨ k = 2 ∨ k = 3 ∨ k = 4 := by
  intro k hk
  have h2 : k < 11 := by
    have h3 := (Bool.and_eq_true _ _ ▸ hk).2
    exact of_decide_eq_true h3
  have h4 : k = 0 ∨ k = 1 ∨ k = 2 ∨ k = 3 ∨ k = 4 ∨ k = 5 ∨ k = 6 ∨ k = 7 ∨ k = 8 ∨ k = 9 ∨ k = 10 := by omega
  rcases h4 with rfl | rfl | rfl | rfl | rfl | rfl | rfl | rfl | rfl | rfl | rfl <;> first | exact absurd hk (by decide) | simp
theorem oi_0 : Cond.methodLink RX0 3 objectInit ∈ tbl := tb_in 418 (by decide +kernel) rfl
theorem cl_0_9 : Cond.classLink RX0 9 RX3 ∈ tbl := tb_in 419 (by decide +kernel) rfl
theorem cl_11_80 : Cond.classLink RX11 80 RX2 ∈ tbl := tb_in 456 (by decide +kernel) rfl
theorem in_2 : Cond.instantiable RX2 3 ∈ tbl := tb_in 457 (by decide +kernel) rfl
theorem ini_2 : Cond.initialized RX2 ∈ tbl := tb_in 63 (by decide +kernel) rfl
theorem dv_2 : ∀ j, j < 3 → defaultValue (tyX2 j) = if fR 2 j = true then .null else .int 0 := by decide +kernel
theorem im_2 : Cond.instanceMethod yX2_init ∈ tbl := tb_in 459 (by decide +kernel) rfl
theorem cls_2 : ∀ k, (fR 2 k && decide (k < nf 2)) = true → k = 0 := by
  intro k hk
  have h2 : k < 3 := by
    have h3 := (Bool.and_eq_true _ _ ▸ hk).2
    exact of_decide_eq_true h3
  have h4 : k = 0 ∨ k = 1 ∨ k = 2 := by omega
  rcases h4 with rfl | rfl | rfl <;> first | exact absurd hk (by decide) | simp
theorem oi_2 : Cond.methodLink RX2 3 objectInit ∈ tbl := tb_in 461 (by decide +kernel) rfl
theorem cl_2_9 : Cond.classLink RX2 9 RX8 ∈ tbl := tb_in 462 (by decide +kernel) rfl
theorem in_12 : Cond.instantiable RX12 45 ∈ tbl := tb_in 1050 (by decide +kernel) rfl
theorem ini_12 : Cond.initialized RX12 ∈ tbl := tb_in 64 (by decide +kernel) rfl
theorem dv_12 : ∀ j, j < 45 → defaultValue (tyX12 j) = if fR 12 j = true then .null else .int 0 := by decide +kernel
theorem im_12 : Cond.instanceMethod yX12_init ∈ tbl := tb_in 1052 (by decide +kernel) rfl
theorem cls_12 : ∀ k, (fR 12 k && decide (k < nf 12)) = true → k = 1 ∨ k = 10 ∨ k = 11 ∨ k = 12 ∨ k = 13 ∨ k = 14 ∨ k = 15 ∨ k = 16 ∨ k = 17 ∨ k = 18 ∨ k = 19 ∨ k = 20 ∨ k = 22 ∨ k = 23 ∨ k = 25 ∨ k = 26 ∨ k = 27 ∨ k = 28 ∨ k = 29 ∨ k = 31 ∨ k = 41 ∨ k = 42 ∨ k = 43 ∨ k = 44 := by
  intro k hk
  have h2 : k < 45 := by
    have h3 := (Bool.and_eq_true _ _ ▸ hk).2
    exact of_decide_eq_true h3
  have h4 : k = 0 ∨ k = 1 ∨ k = 2 ∨ k = 3 ∨ k = 4 ∨ k = 5 ∨ k = 6 ∨ k = 7 ∨ k = 8 ∨ k = 9 ∨ k = 10 ∨ k = 11 ∨ k = 12 ∨ k = 13 ∨ k = 14 ∨ k = 15 ∨ k = 16 ∨ k = 17 ∨ k = 18 ∨ k = 19 ∨ k = 20 ∨ k = 21 ∨ k = 22 ∨ k = 23 ∨ k = 24 ∨ k = 25 ∨ k = 26 ∨ k = 27 ∨ k = 28 ∨ k = 29 ∨ k = 30 ∨ k = 31 ∨ k = 32 ∨ k = 33 ∨ k = 34 ∨ k = 35 ∨ k = 36 ∨ k = 37 ∨ k = 38 ∨ k = 39 ∨ k = 40 ∨ k = 41 ∨ k = 42 ∨ k = 43 ∨ k = 44 := by omega
  rcases h4 with rfl | rfl | rfl | rfl | rfl | rfl | rfl | rfl | rfl | rfl | rfl | rfl | rfl | rfl | rfl | rfl | rfl | rfl | rfl | rfl | rfl | rfl | rfl | rfl | rfl | rfl | rfl | rfl | rfl | rfl | rfl | rfl | rfl | rfl | rfl | rfl | rfl | rfl | rfl | rfl | rfl | rfl | rfl | rfl | rfl <;> first | exact absurd hk (by decide) | simp
theorem oi_12 : Cond.methodLink RX12 1 objectInit ∈ tbl := tb_in 1054 (by decide +kernel) rfl
theorem nX3_clear {t n : Nat} {R : MR} {I : MI} {Q : Option Value → MI → Prop} (k0 : kd t = (0, 3)) (h : t < n) (H : Q none (up2 (up2 (up2 I t 0 (-2)) t 1 0) t 2 0)) : WPm mX3_clear n R [.ref t] I Q := by
  show WP mX3_clear n R 0 [some (.ref t)] [] I Q
  refine w_aload_n dX3_clear_0 rfl rfl ?_
  refine w_bipush (v := (-2)) dX3_clear_1 rfl ?_
  refine w_putI dX3_clear_3 fl_3_24 okC3 k0 h (by decide) rfl rfl rfl ?_
  refine w_aload_n dX3_clear_6 rfl rfl ?_
  refine w_iconst (v := 0) dX3_clear_7 rfl ?_
  refine w_putI dX3_clear_8 fl_3_28 okC3 k0 h (by decide) rfl rfl rfl ?_
  refine w_aload_n dX3_clear_11 rfl rfl ?_
  refine w_iconst (v := 0) dX3_clear_12 rfl ?_
  refine w_putI dX3_clear_13 fl_3_31 okC3 k0 h (by decide) rfl rfl rfl ?_
  exact w_vret dX3_clear_16 rfl H
theorem nX6_clear {t n : Nat} {R : MR} {I : MI} {Q : Option Value → MI → Prop} (k0 : kd t = (0, 6)) (h : t < n) (H : Q none (up2 (up2 (up2 (up2 (up2 (up2 (up2 I t 0 2) t 1 0) t 2 0) t 3 60) t 4 300) t 5 5) t 6 10)) : WPm mX6_clear n R [.ref t] I Q := by
  show WP mX6_clear n R 0 [some (.ref t)] [] I Q
  refine w_aload_n dX6_clear_0 rfl rfl ?_
  refine w_iconst (v := 2) dX6_clear_1 rfl ?_
  refine w_putI dX6_clear_2 fl_6_30 okC6 k0 h (by decide) rfl rfl rfl ?_
  refine w_aload_n dX6_clear_5 rfl rfl ?_
  refine w_iconst (v := 0) dX6_clear_6 rfl ?_
  refine w_putI dX6_clear_7 fl_6_34 okC6 k0 h (by decide) rfl rfl rfl ?_
  refine w_aload_n dX6_clear_10 rfl rfl ?_
  refine w_iconst (v := 0) dX6_clear_11 rfl ?_
  refine w_putI dX6_clear_12 fl_6_37 okC6 k0 h (by decide) rfl rfl rfl ?_
  refine w_aload_n dX6_clear_15 rfl rfl ?_
  refine w_bipush (v := 60) dX6_clear_16 rfl ?_
  refine w_putI dX6_clear_18 fl_6_40 okC6 k0 h (by decide) rfl rfl rfl ?_
  refine w_aload_n dX6_clear_21 rfl rfl ?_
  refine w_sipush (v := 300) dX6_clear_22 rfl ?_
  refine w_putI dX6_clear_25 fl_6_43 okC6 k0 h (by decide) rfl rfl rfl ?_
  refine w_aload_n dX6_clear_28 rfl rfl ?_
  refine w_iconst (v := 5) dX6_clear_29 rfl ?_
  refine w_putI dX6_clear_30 fl_6_46 okC6 k0 h (by decide) rfl rfl rfl ?_
  refine w_aload_n dX6_clear_33 rfl rfl ?_
  refine w_bipush (v := 10) dX6_clear_34 rfl ?_
  refine w_putI dX6_clear_36 fl_6_49 okC6 k0 h (by decide) rfl rfl rfl ?_
  exact w_vret dX6_clear_39 rfl H
abbrev Sh3 (t : Nat) : Prop := t + 4 ≤ 286 ∧ kd (t) = (0, 3) ∧ kd (t + 1) = (1, 12) ∧ kd (t + 2) = (1, 12) ∧ kd (t + 3) = (1, 12) ∧ Rf0 t 3 = some (t + 1) ∧ Rf0 t 4 = some (t + 2) ∧ Rf0 t 5 = some (t + 3)
theorem dX3_init_0 : decode cX3_init 0 = .ok (.aload_n 0, 1) := by decide +kernel
theorem dX3_init_1 : decode cX3_init 1 = .ok (.invokespecial 3, 3) := by decide +kernel
theorem dX3_init_4 : decode cX3_init 4 = .ok (.aload_n 0, 1) := by decide +kernel
theorem dX3_init_5 : decode cX3_init 5 = .ok (.bipush 12, 2) := by decide +kernel
theorem dX3_init_7 : decode cX3_init 7 = .ok (.newarray .int, 2) := by decide +kernel
theorem dX3_init_9 : decode cX3_init 9 = .ok (.putfield 9, 3) := by decide +kernel
theorem dX3_init_12 : decode cX3_init 12 = .ok (.aload_n 0, 1) := by decide +kernel
theorem dX3_init_13 : decode cX3_init 13 = .ok (.bipush 12, 2) := by decide +kernel
theorem dX3_init_15 : decode cX3_init 15 = .ok (.newarray .int, 2) := by decide +kernel
theorem dX3_init_17 : decode cX3_init 17 = .ok (.putfield 15, 3) := by decide +kernel
theorem dX3_init_20 : decode cX3_init 20 = .ok (.aload_n 0, 1) := by decide +kernel
theorem dX3_init_21 : decode cX3_init 21 = .ok (.bipush 12, 2) := by decide +kernel
theorem dX3_init_23 : decode cX3_init 23 = .ok (.newarray .int, 2) := by decide +kernel
theorem dX3_init_25 : decode cX3_init 25 = .ok (.putfield 18, 3) := by decide +kernel
theorem dX3_init_28 : decode cX3_init 28 = .ok (.aload_n 0, 1) := by decide +kernel
theorem dX3_init_29 : decode cX3_init 29 = .ok (.invokevirtual 21, 3) := by decide +kernel
theorem dX3_init_32 : decode cX3_init 32 = .ok (.return_, 1) := by decide +kernel
theorem nX3 {t : Nat} {R0 : MR} {I0 : MI} (sh : Sh3 t) (hz : I0 t = fun _ => 0) (hr : R0 t = fun _ => none) : WC mX3_init 3 36 (t + 1) (t + 4) [.ref t] R0 I0 (Qc t (t + 4) R0 I0) := by
  intro G ad0 A p l e s m args below meth c hm
  obtain ⟨b, k0, k1, k2, k3, r3, r4, r5⟩ := sh
  show WB G ad0 _ A p l e _ s m args below meth c _ mX3_init 0 0 _ R0 0 [some (.ref t)] [] I0
  have s0 := St_0 hz hr
  refine wb_aload_n dX3_init_0 rfl rfl ?_
  refine wb_obj dX3_init_1 oi_3 oiI oiC (Nat.le_of_ble_eq_true rfl) (Nat.le_of_ble_eq_true rfl) ?_
  refine wb_aload_n dX3_init_4 rfl rfl ?_
  refine wb_bipush (v := 12) dX3_init_5 rfl ?_
  refine wb_newa (N := 12) (n' := t + 2) dX3_init_7 acI rfl k1 (Or.inl ⟨rfl, rfl⟩) (by decide) rfl (by decide) (by omega) (Nat.le_of_ble_eq_true rfl) (Nat.le_of_ble_eq_true rfl) (lvB1 (by omega)) (stB1 (by omega)) rfl (fun z1 _ => ?_)
  have s1 := St_arr (n' := t + 2) s0 k1 (Or.inl rfl) z1 rfl
  refine wb_putR hm dX3_init_9 fl_3_9 okC3 k0 (by omega) (by decide) rfl rfl (by omega) (fun _ => rfl) (fun _ => rfl) ?_
  have s2 := St_put (k := 3) (r := t + 1) s1
  refine wb_aload_n dX3_init_12 rfl rfl ?_
  refine wb_bipush (v := 12) dX3_init_13 rfl ?_
  refine wb_newa (N := 12) (n' := t + 3) dX3_init_15 acI rfl k2 (Or.inl ⟨rfl, rfl⟩) (by decide) rfl (by decide) (by omega) (Nat.le_of_ble_eq_true rfl) (Nat.le_of_ble_eq_true rfl) (lvB1 (by omega)) (stB1 (by omega)) rfl (fun z3 _ => ?_)
  have s3 := St_arr (n' := t + 3) s2 k2 (Or.inl rfl) z3 rfl
  refine wb_putR hm dX3_init_17 fl_3_15 okC3 k0 (by omega) (by decide) rfl rfl (by omega) (fun _ => rfl) (fun _ => rfl) ?_
  have s4 := St_put (k := 4) (r := t + 2) s3
  refine wb_aload_n dX3_init_20 rfl rfl ?_
  refine wb_bipush (v := 12) dX3_init_21 rfl ?_
  refine wb_newa (N := 12) (n' := t + 4) dX3_init_23 acI rfl k3 (Or.inl ⟨rfl, rfl⟩) (by decide) rfl (by decide) (by omega) (Nat.le_of_ble_eq_true rfl) (Nat.le_of_ble_eq_true rfl) (lvB1 (by omega)) (stB1 (by omega)) rfl (fun z5 _ => ?_)
  have s5 := St_arr (n' := t + 4) s4 k3 (Or.inl rfl) z5 rfl
  refine wb_putR hm dX3_init_25 fl_3_18 okC3 k0 (by omega) (by decide) rfl rfl (by omega) (fun _ => rfl) (fun _ => rfl) ?_
  have s6 := St_put (k := 5) (r := t + 3) s5
  refine wb_aload_n dX3_init_28 rfl rfl ?_
  refine wb_call (As := []) dX3_init_29 ml_3_21 okX3_clear k0 (by omega) okC3.1 rfl rfl (Nat.le_of_ble_eq_true rfl) ⟨(Nat.le_of_ble_eq_true rfl), (Nat.le_of_ble_eq_true rfl)⟩ ⟨(Nat.le_of_ble_eq_true rfl), (Nat.le_of_ble_eq_true rfl)⟩ (Nat.le_of_ble_eq_true rfl) (fun hi => ?_)
  refine nX3_clear k0 (by omega) ⟨(Inv_I (Inv_I (Inv_I hi (by omega)) (by omega)) (by omega)).2.2, ?_⟩
  have s7 := (St_putI (k := 2) (x := 0) (St_putI (k := 1) (x := 0) (St_putI (k := 0) (x := -2) s6)))
  refine wb_vret dX3_init_32 rfl rfl rfl rfl (St_fin s7 k0 ?_ ?_)
  · intro k hk
    rcases cls_3 k hk with rfl | rfl | rfl
    · rw [r3]; rfl
    · rw [r4]; rfl
    · rw [r5]; rfl
  · rw [Iv_3 k0]
    funext k
    simp only [upd]
    by_cases h0 : k = 0
    · subst h0; rfl
    · by_cases h1 : k = 1
      · subst h1; rfl
      · by_cases h2 : k = 2
        · subst h2; rfl
        · simp [h0, h1, h2]
abbrev Sh8 (t : Nat) : Prop := t + 14 ≤ 286 ∧ kd (t) = (0, 8) ∧ kd (t + 1) = (1, 84) ∧ kd (t + 2) = (1, 12) ∧ kd (t + 3) = (1, 18) ∧ kd (t + 4) = (1, 18) ∧ kd (t + 5) = (1, 12) ∧ kd (t + 6) = (1, 12) ∧ kd (t + 7) = (1, 12) ∧ kd (t + 8) = (1, 12) ∧ kd (t + 9) = (1, 100) ∧ kd (t + 10) = (0, 3) ∧ Rf0 t 2 = some (t + 1) ∧ Rf0 t 3 = some (t + 2) ∧ Rf0 t 4 = some (t + 3) ∧ Rf0 t 5 = some (t + 4) ∧ Rf0 t 6 = some (t + 5) ∧ Rf0 t 7 = some (t + 6) ∧ Rf0 t 8 = some (t + 7) ∧ Rf0 t 9 = some (t + 8) ∧ Rf0 t 10 = some (t + 9) ∧ Rf0 t 11 = some (t + 10) ∧ Sh3 (t + 10)
theorem dX8_init_0 : decode cX8_init 0 = .ok (.aload_n 0, 1) := by decide +kernel
theorem dX8_init_1 : decode cX8_init 1 = .ok (.invokespecial 3, 3) := by decide +kernel
theorem dX8_init_4 : decode cX8_init 4 = .ok (.aload_n 0, 1) := by decide +kernel
theorem dX8_init_5 : decode cX8_init 5 = .ok (.bipush 84, 2) := by decide +kernel
theorem dX8_init_7 : decode cX8_init 7 = .ok (.newarray .int, 2) := by decide +kernel
theorem dX8_init_9 : decode cX8_init 9 = .ok (.putfield 9, 3) := by decide +kernel
theorem dX8_init_12 : decode cX8_init 12 = .ok (.aload_n 0, 1) := by decide +kernel
theorem dX8_init_13 : decode cX8_init 13 = .ok (.bipush 12, 2) := by decide +kernel
theorem dX8_init_15 : decode cX8_init 15 = .ok (.newarray .int, 2) := by decide +kernel
theorem dX8_init_17 : decode cX8_init 17 = .ok (.putfield 15, 3) := by decide +kernel
theorem dX8_init_20 : decode cX8_init 20 = .ok (.aload_n 0, 1) := by decide +kernel
theorem dX8_init_21 : decode cX8_init 21 = .ok (.bipush 18, 2) := by decide +kernel
theorem dX8_init_23 : decode cX8_init 23 = .ok (.newarray .int, 2) := by decide +kernel
theorem dX8_init_25 : decode cX8_init 25 = .ok (.putfield 18, 3) := by decide +kernel
theorem dX8_init_28 : decode cX8_init 28 = .ok (.aload_n 0, 1) := by decide +kernel
theorem dX8_init_29 : decode cX8_init 29 = .ok (.bipush 18, 2) := by decide +kernel
theorem dX8_init_31 : decode cX8_init 31 = .ok (.newarray .int, 2) := by decide +kernel
theorem dX8_init_33 : decode cX8_init 33 = .ok (.putfield 21, 3) := by decide +kernel
theorem dX8_init_36 : decode cX8_init 36 = .ok (.aload_n 0, 1) := by decide +kernel
theorem dX8_init_37 : decode cX8_init 37 = .ok (.bipush 12, 2) := by decide +kernel
theorem dX8_init_39 : decode cX8_init 39 = .ok (.newarray .int, 2) := by decide +kernel
theorem dX8_init_41 : decode cX8_init 41 = .ok (.putfield 24, 3) := by decide +kernel
theorem dX8_init_44 : decode cX8_init 44 = .ok (.aload_n 0, 1) := by decide +kernel
theorem dX8_init_45 : decode cX8_init 45 = .ok (.bipush 12, 2) := by decide +kernel
theorem dX8_init_47 : decode cX8_init 47 = .ok (.newarray .int, 2) := by decide +kernel
theorem dX8_init_49 : decode cX8_init 49 = .ok (.putfield 27, 3) := by decide +kernel
theorem dX8_init_52 : decode cX8_init 52 = .ok (.aload_n 0, 1) := by decide +kernel
theorem dX8_init_53 : decode cX8_init 53 = .ok (.bipush 12, 2) := by decide +kernel
theorem dX8_init_55 : decode cX8_init 55 = .ok (.newarray .int, 2) := by decide +kernel
theorem dX8_init_57 : decode cX8_init 57 = .ok (.putfield 30, 3) := by decide +kernel
theorem dX8_init_60 : decode cX8_init 60 = .ok (.aload_n 0, 1) := by decide +kernel
theorem dX8_init_61 : decode cX8_init 61 = .ok (.bipush 12, 2) := by decide +kernel
theorem dX8_init_63 : decode cX8_init 63 = .ok (.newarray .int, 2) := by decide +kernel
theorem dX8_init_65 : decode cX8_init 65 = .ok (.putfield 33, 3) := by decide +kernel
theorem dX8_init_68 : decode cX8_init 68 = .ok (.aload_n 0, 1) := by decide +kernel
theorem dX8_init_69 : decode cX8_init 69 = .ok (.bipush 100, 2) := by decide +kernel
theorem dX8_init_71 : decode cX8_init 71 = .ok (.newarray .int, 2) := by decide +kernel
theorem dX8_init_73 : decode cX8_init 73 = .ok (.putfield 36, 3) := by decide +kernel
theorem dX8_init_76 : decode cX8_init 76 = .ok (.aload_n 0, 1) := by decide +kernel
theorem dX8_init_77 : decode cX8_init 77 = .ok (.new 39, 3) := by decide +kernel
theorem dX8_init_80 : decode cX8_init 80 = .ok (.dup, 1) := by decide +kernel
theorem dX8_init_81 : decode cX8_init 81 = .ok (.invokespecial 41, 3) := by decide +kernel
theorem dX8_init_84 : decode cX8_init 84 = .ok (.putfield 42, 3) := by decide +kernel
theorem dX8_init_87 : decode cX8_init 87 = .ok (.return_, 1) := by decide +kernel
theorem nX8 {t : Nat} {R0 : MR} {I0 : MI} (sh : Sh8 t) (hz : I0 t = fun _ => 0) (hr : R0 t = fun _ => none) : WC mX8_init 13 322 (t + 1) (t + 14) [.ref t] R0 I0 (Qc t (t + 14) R0 I0) := by
  intro G ad0 A p l e s m args below meth c hm
  obtain ⟨b, k0, k1, k2, k3, k4, k5, k6, k7, k8, k9, k10, r2, r3, r4, r5, r6, r7, r8, r9, r10, r11, shL⟩ := sh
  show WB G ad0 _ A p l e _ s m args below meth c _ mX8_init 0 0 _ R0 0 [some (.ref t)] [] I0
  have s0 := St_0 hz hr
  refine wb_aload_n dX8_init_0 rfl rfl ?_
  refine wb_obj dX8_init_1 oi_8 oiI oiC (Nat.le_of_ble_eq_true rfl) (Nat.le_of_ble_eq_true rfl) ?_
  refine wb_aload_n dX8_init_4 rfl rfl ?_
  refine wb_bipush (v := 84) dX8_init_5 rfl ?_
  refine wb_newa (N := 84) (n' := t + 2) dX8_init_7 acI rfl k1 (Or.inl ⟨rfl, rfl⟩) (by decide) rfl (by decide) (by omega) (Nat.le_of_ble_eq_true rfl) (Nat.le_of_ble_eq_true rfl) (lvB1 (by omega)) (stB1 (by omega)) rfl (fun z1 _ => ?_)
  have s1 := St_arr (n' := t + 2) s0 k1 (Or.inl rfl) z1 rfl
  refine wb_putR hm dX8_init_9 fl_8_9 okC8 k0 (by omega) (by decide) rfl rfl (by omega) (fun _ => rfl) (fun _ => rfl) ?_
  have s2 := St_put (k := 2) (r := t + 1) s1
  refine wb_aload_n dX8_init_12 rfl rfl ?_
  refine wb_bipush (v := 12) dX8_init_13 rfl ?_
  refine wb_newa (N := 12) (n' := t + 3) dX8_init_15 acI rfl k2 (Or.inl ⟨rfl, rfl⟩) (by decide) rfl (by decide) (by omega) (Nat.le_of_ble_eq_true rfl) (Nat.le_of_ble_eq_true rfl) (lvB1 (by omega)) (stB1 (by omega)) rfl (fun z3 _ => ?_)
  have s3 := St_arr (n' := t + 3) s2 k2 (Or.inl rfl) z3 rfl
  refine wb_putR hm dX8_init_17 fl_8_15 okC8 k0 (by omega) (by decide) rfl rfl (by omega) (fun _ => rfl) (fun _ => rfl) ?_
  have s4 := St_put (k := 3) (r := t + 2) s3
  refine wb_aload_n dX8_init_20 rfl rfl ?_
  refine wb_bipush (v := 18) dX8_init_21 rfl ?_
  refine wb_newa (N := 18) (n' := t + 4) dX8_init_23 acI rfl k3 (Or.inl ⟨rfl, rfl⟩) (by decide) rfl (by decide) (by omega) (Nat.le_of_ble_eq_true rfl) (Nat.le_of_ble_eq_true rfl) (lvB1 (by omega)) (stB1 (by omega)) rfl (fun z5 _ => ?_)
  have s5 := St_arr (n' := t + 4) s4 k3 (Or.inl rfl) z5 rfl
  refine wb_putR hm dX8_init_25 fl_8_18 okC8 k0 (by omega) (by decide) rfl rfl (by omega) (fun _ => rfl) (fun _ => rfl) ?_
  have s6 := St_put (k := 4) (r := t + 3) s5
  refine wb_aload_n dX8_init_28 rfl rfl ?_
  refine wb_bipush (v := 18) dX8_init_29 rfl ?_
  refine wb_newa (N := 18) (n' := t + 5) dX8_init_31 acI rfl k4 (Or.inl ⟨rfl, rfl⟩) (by decide) rfl (by decide) (by omega) (Nat.le_of_ble_eq_true rfl) (Nat.le_of_ble_eq_true rfl) (lvB1 (by omega)) (stB1 (by omega)) rfl (fun z7 _ => ?_)
  have s7 := St_arr (n' := t + 5) s6 k4 (Or.inl rfl) z7 rfl
  refine wb_putR hm dX8_init_33 fl_8_21 okC8 k0 (by omega) (by decide) rfl rfl (by omega) (fun _ => rfl) (fun _ => rfl) ?_
  have s8 := St_put (k := 5) (r := t + 4) s7
  refine wb_aload_n dX8_init_36 rfl rfl ?_
  refine wb_bipush (v := 12) dX8_init_37 rfl ?_
  refine wb_newa (N := 12) (n' := t + 6) dX8_init_39 acI rfl k5 (Or.inl ⟨rfl, rfl⟩) (by decide) rfl (by decide) (by omega) (Nat.le_of_ble_eq_true rfl) (Nat.le_of_ble_eq_true rfl) (lvB1 (by omega)) (stB1 (by omega)) rfl (fun z9 _ => ?_)
  have s9 := St_arr (n' := t + 6) s8 k5 (Or.inl rfl) z9 rfl
  refine wb_putR hm dX8_init_41 fl_8_24 okC8 k0 (by omega) (by decide) rfl rfl (by omega) (fun _ => rfl) (fun _ => rfl) ?_
  have s10 := St_put (k := 6) (r := t + 5) s9
  refine wb_aload_n dX8_init_44 rfl rfl ?_
  refine wb_bipush (v := 12) dX8_init_45 rfl ?_
  refine wb_newa (N := 12) (n' := t + 7) dX8_init_47 acI rfl k6 (Or.inl ⟨rfl, rfl⟩) (by decide) rfl (by decide) (by omega) (Nat.le_of_ble_eq_true rfl) (Nat.le_of_ble_eq_true rfl) (lvB1 (by omega)) (stB1 (by omega)) rfl (fun z11 _ => ?_)
  have s11 := St_arr (n' := t + 7) s10 k6 (Or.inl rfl) z11 rfl
  refine wb_putR hm dX8_init_49 fl_8_27 okC8 k0 (by omega) (by decide) rfl rfl (by omega) (fun _ => rfl) (fun _ => rfl) ?_
  have s12 := St_put (k := 7) (r := t + 6) s11
  refine wb_aload_n dX8_init_52 rfl rfl ?_
  refine wb_bipush (v := 12) dX8_init_53 rfl ?_
  refine wb_newa (N := 12) (n' := t + 8) dX8_init_55 acI rfl k7 (Or.inl ⟨rfl, rfl⟩) (by decide) rfl (by decide) (by omega) (Nat.le_of_ble_eq_true rfl) (Nat.le_of_ble_eq_true rfl) (lvB1 (by omega)) (stB1 (by omega)) rfl (fun z13 _ => ?_)
  have s13 := St_arr (n' := t + 8) s12 k7 (Or.inl rfl) z13 rfl
  refine wb_putR hm dX8_init_57 fl_8_30 okC8 k0 (by omega) (by decide) rfl rfl (by omega) (fun _ => rfl) (fun _ => rfl) ?_
  have s14 := St_put (k := 8) (r := t + 7) s13
  refine wb_aload_n dX8_init_60 rfl rfl ?_
  refine wb_bipush (v := 12) dX8_init_61 rfl ?_
  refine wb_newa (N := 12) (n' := t + 9) dX8_init_63 acI rfl k8 (Or.inl ⟨rfl, rfl⟩) (by decide) rfl (by decide) (by omega) (Nat.le_of_ble_eq_true rfl) (Nat.le_of_ble_eq_true rfl) (lvB1 (by omega)) (stB1 (by omega)) rfl (fun z15 _ => ?_)
  have s15 := St_arr (n' := t + 9) s14 k8 (Or.inl rfl) z15 rfl
  refine wb_putR hm dX8_init_65 fl_8_33 okC8 k0 (by omega) (by decide) rfl rfl (by omega) (fun _ => rfl) (fun _ => rfl) ?_
  have s16 := St_put (k := 9) (r := t + 8) s15
  refine wb_aload_n dX8_init_68 rfl rfl ?_
  refine wb_bipush (v := 100) dX8_init_69 rfl ?_
  refine wb_newa (N := 100) (n' := t + 10) dX8_init_71 acI rfl k9 (Or.inl ⟨rfl, rfl⟩) (by decide) rfl (by decide) (by omega) (Nat.le_of_ble_eq_true rfl) (Nat.le_of_ble_eq_true rfl) (lvB1 (by omega)) (stB1 (by omega)) rfl (fun z17 _ => ?_)
  have s17 := St_arr (n' := t + 10) s16 k9 (Or.inl rfl) z17 rfl
  refine wb_putR hm dX8_init_73 fl_8_36 okC8 k0 (by omega) (by decide) rfl rfl (by omega) (fun _ => rfl) (fun _ => rfl) ?_
  have s18 := St_put (k := 10) (r := t + 9) s17
  refine wb_aload_n dX8_init_76 rfl rfl ?_
  refine wb_new (N := 6) (n' := t + 11) dX8_init_77 cl_8_39 in_3 ini_3 okC3 k10 (by omega) dv_3 (Nat.le_of_ble_eq_true rfl) (Nat.le_of_ble_eq_true rfl) (lvB1 (by omega)) (stB1 (by omega)) rfl (fun hz10 hr10 => ?_)
  refine wb_dup dX8_init_80 rfl ?_
  refine wb_ctor (As := []) (nE := t + 14) dX8_init_81 (Or.inl ml_8_41) okX3_init im_3 rfl rfl rfl (Nat.le_of_ble_eq_true rfl) ⟨(Nat.le_of_ble_eq_true rfl), (Nat.le_of_ble_eq_true rfl)⟩ ⟨(Nat.le_of_ble_eq_true rfl), (Nat.le_of_ble_eq_true rfl)⟩ (Nat.le_of_ble_eq_true rfl) (lvB1 (by omega)) (stB2 (by omega) (by omega)) (by omega) (fun hi => nX3 shL hz10 hr10) (fun R19 I19 hi19 q19 => ?_)
  have s19 := St_call s18 (by omega) (by omega) q19
  refine wb_putR hm dX8_init_84 fl_8_42 okC8 k0 (by omega) (by decide) rfl rfl (by omega) (fun _ => rfl) (fun _ => rfl) ?_
  have s20 := St_put (k := 11) (r := t + 10) s19
  refine wb_vret dX8_init_87 rfl rfl rfl rfl (St_fin s20 k0 ?_ ?_)
  · intro k hk
    rcases cls_8 k hk with rfl | rfl | rfl | rfl | rfl | rfl | rfl | rfl | rfl | rfl
    · rw [r2]; rfl
    · rw [r3]; rfl
    · rw [r4]; rfl
    · rw [r5]; rfl
    · rw [r6]; rfl
    · rw [r7]; rfl
    · rw [r8]; rfl
    · rw [r9]; rfl
    · rw [r10]; rfl
    · rw [r11]; rfl
  · exact (Iv_o k0 (by decide)).symm
abbrev Sh6 (t : Nat) : Prop := t + 6 ≤ 286 ∧ kd (t) = (0, 6) ∧ kd (t + 1) = (1, 18) ∧ kd (t + 2) = (1, 18) ∧ kd (t + 3) = (1, 18) ∧ kd (t + 4) = (1, 12) ∧ kd (t + 5) = (1, 12) ∧ Rf0 t 7 = some (t + 1) ∧ Rf0 t 8 = some (t + 2) ∧ Rf0 t 9 = some (t + 3) ∧ Rf0 t 10 = some (t + 4) ∧ Rf0 t 11 = some (t + 5)
theorem dX6_init_0 : decode cX6_init 0 = .ok (.aload_n 0, 1) := by decide +kernel
theorem dX6_init_1 : decode cX6_init 1 = .ok (.invokespecial 3, 3) := by decide +kernel
theorem dX6_init_4 : decode cX6_init 4 = .ok (.aload_n 0, 1) := by decide +kernel
theorem dX6_init_5 : decode cX6_init 5 = .ok (.bipush 18, 2) := by decide +kernel
theorem dX6_init_7 : decode cX6_init 7 = .ok (.newarray .int, 2) := by decide +kernel
theorem dX6_init_9 : decode cX6_init 9 = .ok (.putfield 9, 3) := by decide +kernel
theorem dX6_init_12 : decode cX6_init 12 = .ok (.aload_n 0, 1) := by decide +kernel
theorem dX6_init_13 : decode cX6_init 13 = .ok (.bipush 18, 2) := by decide +kernel
theorem dX6_init_15 : decode cX6_init 15 = .ok (.newarray .int, 2) := by decide +kernel
theorem dX6_init_17 : decode cX6_init 17 = .ok (.putfield 15, 3) := by decide +kernel
theorem dX6_init_20 : decode cX6_init 20 = .ok (.aload_n 0, 1) := by decide +kernel
theorem dX6_init_21 : decode cX6_init 21 = .ok (.bipush 18, 2) := by decide +kernel
theorem dX6_init_23 : decode cX6_init 23 = .ok (.newarray .int, 2) := by decide +kernel
theorem dX6_init_25 : decode cX6_init 25 = .ok (.putfield 18, 3) := by decide +kernel
theorem dX6_init_28 : decode cX6_init 28 = .ok (.aload_n 0, 1) := by decide +kernel
theorem dX6_init_29 : decode cX6_init 29 = .ok (.bipush 12, 2) := by decide +kernel
theorem dX6_init_31 : decode cX6_init 31 = .ok (.newarray .int, 2) := by decide +kernel
theorem dX6_init_33 : decode cX6_init 33 = .ok (.putfield 21, 3) := by decide +kernel
theorem dX6_init_36 : decode cX6_init 36 = .ok (.aload_n 0, 1) := by decide +kernel
theorem dX6_init_37 : decode cX6_init 37 = .ok (.bipush 12, 2) := by decide +kernel
theorem dX6_init_39 : decode cX6_init 39 = .ok (.newarray .int, 2) := by decide +kernel
theorem dX6_init_41 : decode cX6_init 41 = .ok (.putfield 24, 3) := by decide +kernel
theorem dX6_init_44 : decode cX6_init 44 = .ok (.aload_n 0, 1) := by decide +kernel
theorem dX6_init_45 : decode cX6_init 45 = .ok (.invokevirtual 27, 3) := by decide +kernel
theorem dX6_init_48 : decode cX6_init 48 = .ok (.return_, 1) := by decide +kernel
theorem nX6 {t : Nat} {R0 : MR} {I0 : MI} (sh : Sh6 t) (hz : I0 t = fun _ => 0) (hr : R0 t = fun _ => none) : WC mX6_init 5 78 (t + 1) (t + 6) [.ref t] R0 I0 (Qc t (t + 6) R0 I0) := by
  intro G ad0 A p l e s m args below meth c hm
  obtain ⟨b, k0, k1, k2, k3, k4, k5, r7, r8, r9, r10, r11⟩ := sh
  show WB G ad0 _ A p l e _ s m args below meth c _ mX6_init 0 0 _ R0 0 [some (.ref t)] [] I0
  have s0 := St_0 hz hr
  refine wb_aload_n dX6_init_0 rfl rfl ?_
  refine wb_obj dX6_init_1 oi_6 oiI oiC (Nat.le_of_ble_eq_true rfl) (Nat.le_of_ble_eq_true rfl) ?_
  refine wb_aload_n dX6_init_4 rfl rfl ?_
  refine wb_bipush (v := 18) dX6_init_5 rfl ?_
  refine wb_newa (N := 18) (n' := t + 2) dX6_init_7 acI rfl k1 (Or.inl ⟨rfl, rfl⟩) (by decide) rfl (by decide) (by omega) (Nat.le_of_ble_eq_true rfl) (Nat.le_of_ble_eq_true rfl) (lvB1 (by omega)) (stB1 (by omega)) rfl (fun z1 _ => ?_)
  have s1 := St_arr (n' := t + 2) s0 k1 (Or.inl rfl) z1 rfl
  refine wb_putR hm dX6_init_9 fl_6_9 okC6 k0 (by omega) (by decide) rfl rfl (by omega) (fun _ => rfl) (fun _ => rfl) ?_
  have s2 := St_put (k := 7) (r := t + 1) s1
  refine wb_aload_n dX6_init_12 rfl rfl ?_
  refine wb_bipush (v := 18) dX6_init_13 rfl ?_
  refine wb_newa (N := 18) (n' := t + 3) dX6_init_15 acI rfl k2 (Or.inl ⟨rfl, rfl⟩) (by decide) rfl (by decide) (by omega) (Nat.le_of_ble_eq_true rfl) (Nat.le_of_ble_eq_true rfl) (lvB1 (by omega)) (stB1 (by omega)) rfl (fun z3 _ => ?_)
  have s3 := St_arr (n' := t + 3) s2 k2 (Or.inl rfl) z3 rfl
  refine wb_putR hm dX6_init_17 fl_6_15 okC6 k0 (by omega) (by decide) rfl rfl (by omega) (fun _ => rfl) (fun _ => rfl) ?_
  have s4 := St_put (k := 8) (r := t + 2) s3
  refine wb_aload_n dX6_init_20 rfl rfl ?_
  refine wb_bipush (v := 18) dX6_init_21 rfl ?_
  refine wb_newa (N := 18) (n' := t + 4) dX6_init_23 acI rfl k3 (Or.inl ⟨rfl, rfl⟩) (by decide) rfl (by decide) (by omega) (Nat.le_of_ble_eq_true rfl) (Nat.le_of_ble_eq_true rfl) (lvB1 (by omega)) (stB1 (by omega)) rfl (fun z5 _ => ?_)
  have s5 := St_arr (n' := t + 4) s4 k3 (Or.inl rfl) z5 rfl
  refine wb_putR hm dX6_init_25 fl_6_18 okC6 k0 (by omega) (by decide) rfl rfl (by omega) (fun _ => rfl) (fun _ => rfl) ?_
  have s6 := St_put (k := 9) (r := t + 3) s5
  refine wb_aload_n dX6_init_28 rfl rfl ?_
  refine wb_bipush (v := 12) dX6_init_29 rfl ?_
  refine wb_newa (N := 12) (n' := t + 5) dX6_init_31 acI rfl k4 (Or.inl ⟨rfl, rfl⟩) (by decide) rfl (by decide) (by omega) (Nat.le_of_ble_eq_true rfl) (Nat.le_of_ble_eq_true rfl) (lvB1 (by omega)) (stB1 (by omega)) rfl (fun z7 _ => ?_)
  have s7 := St_arr (n' := t + 5) s6 k4 (Or.inl rfl) z7 rfl
  refine wb_putR hm dX6_init_33 fl_6_21 okC6 k0 (by omega) (by decide) rfl rfl (by omega) (fun _ => rfl) (fun _ => rfl) ?_
  have s8 := St_put (k := 10) (r := t + 4) s7
  refine wb_aload_n dX6_init_36 rfl rfl ?_
  refine wb_bipush (v := 12) dX6_init_37 rfl ?_
  refine wb_newa (N := 12) (n' := t + 6) dX6_init_39 acI rfl k5 (Or.inl ⟨rfl, rfl⟩) (by decide) rfl (by decide) (by omega) (Nat.le_of_ble_eq_true rfl) (Nat.le_of_ble_eq_true rfl) (lvB1 (by omega)) (stB1 (by omega)) rfl (fun z9 _ => ?_)
  have s9 := St_arr (n' := t + 6) s8 k5 (Or.inl rfl) z9 rfl
  refine wb_putR hm dX6_init_41 fl_6_24 okC6 k0 (by omega) (by decide) rfl rfl (by omega) (fun _ => rfl) (fun _ => rfl) ?_
  have s10 := St_put (k := 11) (r := t + 5) s9
  refine wb_aload_n dX6_init_44 rfl rfl ?_
  refine wb_call (As := []) dX6_init_45 ml_6_27 okX6_clear k0 (by omega) okC6.1 rfl rfl (Nat.le_of_ble_eq_true rfl) ⟨(Nat.le_of_ble_eq_true rfl), (Nat.le_of_ble_eq_true rfl)⟩ ⟨(Nat.le_of_ble_eq_true rfl), (Nat.le_of_ble_eq_true rfl)⟩ (Nat.le_of_ble_eq_true rfl) (fun hi => ?_)
  refine nX6_clear k0 (by omega) ⟨(Inv_I (Inv_I (Inv_I (Inv_I (Inv_I (Inv_I (Inv_I hi (by omega)) (by omega)) (by omega)) (by omega)) (by omega)) (by omega)) (by omega)).2.2, ?_⟩
  have s11 := (St_putI (k := 6) (x := 10) (St_putI (k := 5) (x := 5) (St_putI (k := 4) (x := 300) (St_putI (k := 3) (x := 60) (St_putI (k := 2) (x := 0) (St_putI (k := 1) (x := 0) (St_putI (k := 0) (x := 2) s10)))))))
  refine wb_vret dX6_init_48 rfl rfl rfl rfl (St_fin s11 k0 ?_ ?_)
  · intro k hk
    rcases cls_6 k hk with rfl | rfl | rfl | rfl | rfl
    · rw [r7]; rfl
    · rw [r8]; rfl
    · rw [r9]; rfl
    · rw [r10]; rfl
    · rw [r11]; rfl
  · rw [Iv_6 k0]
    funext k
    by_cases h7 : k < 7
    · have h8 : k = 0 ∨ k = 1 ∨ k = 2 ∨ k = 3 ∨ k = 4 ∨ k = 5 ∨ k = 6 := by omega
      rcases h8 with h | h | h | h | h | h | h <;> subst h <;> rfl
    · obtain ⟨j, rfl⟩ : ∃ j, k = j + 7 := ⟨k - 7, by omega⟩
      simp [upd, plV]
abbrev Sh7 (t : Nat) : Prop := t + 2 ≤ 286 ∧ kd (t) = (0, 7) ∧ kd (t + 1) = (1, 10) ∧ Rf0 t 0 = some (t + 1)
theorem dX7_init_0 : decode cX7_init 0 = .ok (.aload_n 0, 1) := by decide +kernel
theorem dX7_init_1 : decode cX7_init 1 = .ok (.invokespecial 3, 3) := by decide +kernel
theorem dX7_init_4 : decode cX7_init 4 = .ok (.aload_n 0, 1) := by decide +kernel
theorem dX7_init_5 : decode cX7_init 5 = .ok (.bipush 10, 2) := by decide +kernel
theorem dX7_init_7 : decode cX7_init 7 = .ok (.newarray .int, 2) := by decide +kernel
theorem dX7_init_9 : decode cX7_init 9 = .ok (.putfield 9, 3) := by decide +kernel
theorem dX7_init_12 : decode cX7_init 12 = .ok (.return_, 1) := by decide +kernel
theorem nX7 {t : Nat} {R0 : MR} {I0 : MI} (sh : Sh7 t) (hz : I0 t = fun _ => 0) (hr : R0 t = fun _ => none) : WC mX7_init 1 10 (t + 1) (t + 2) [.ref t] R0 I0 (Qc t (t + 2) R0 I0) := by
  intro G ad0 A p l e s m args below meth c hm
  obtain ⟨b, k0, k1, r0⟩ := sh
  show WB G ad0 _ A p l e _ s m args below meth c _ mX7_init 0 0 _ R0 0 [some (.ref t)] [] I0
  have s0 := St_0 hz hr
  refine wb_aload_n dX7_init_0 rfl rfl ?_
  refine wb_obj dX7_init_1 oi_7 oiI oiC (Nat.le_of_ble_eq_true rfl) (Nat.le_of_ble_eq_true rfl) ?_
  refine wb_aload_n dX7_init_4 rfl rfl ?_
  refine wb_bipush (v := 10) dX7_init_5 rfl ?_
  refine wb_newa (N := 10) (n' := t + 2) dX7_init_7 acI rfl k1 (Or.inl ⟨rfl, rfl⟩) (by decide) rfl (by decide) (by omega) (Nat.le_of_ble_eq_true rfl) (Nat.le_of_ble_eq_true rfl) (lvB1 (by omega)) (stB1 (by omega)) rfl (fun z1 _ => ?_)
  have s1 := St_arr (n' := t + 2) s0 k1 (Or.inl rfl) z1 rfl
  refine wb_putR hm dX7_init_9 fl_7_9 okC7 k0 (by omega) (by decide) rfl rfl (by omega) (fun _ => rfl) (fun _ => rfl) ?_
  have s2 := St_put (k := 0) (r := t + 1) s1
  refine wb_vret dX7_init_12 rfl rfl rfl rfl (St_fin s2 k0 ?_ ?_)
  · intro k hk
    rcases cls_7 k hk with rfl
    · rw [r0]; rfl
  · exact (Iv_o k0 (by decide)).symm
theorem dX9_init_0 : decode cX9_init 0 = .ok (.aload_n 0, 1) := by decide +kernel
theorem dX9_init_1 : decode cX9_init 1 = .ok (.invokespecial 3, 3) := by decide +kernel
theorem dX9_init_4 : decode cX9_init 4 = .ok (.aload_n 0, 1) := by decide +kernel
theorem dX9_init_5 : decode cX9_init 5 = .ok (.sipush 900, 3) := by decide +kernel
theorem dX9_init_8 : decode cX9_init 8 = .ok (.newarray .byte, 2) := by decide +kernel
theorem dX9_init_10 : decode cX9_init 10 = .ok (.putfield 9, 3) := by decide +kernel
theorem dX9_init_13 : decode cX9_init 13 = .ok (.return_, 1) := by decide +kernel
theorem nX9 {R0 : MR} {I0 : MI} (hz : I0 1 = fun _ => 0) (hr : R0 1 = fun _ => none) : WC mX9_init 1 900 2 3 [.ref 1] R0 I0 (Qc 1 3 R0 I0) := by
  intro G ad0 A p l e s m args below meth c hm
  show WB G ad0 _ A p l e _ s m args below meth c _ mX9_init 0 0 _ R0 0 [some (.ref 1)] [] I0
  have s0 := St_0 hz hr
  refine wb_aload_n dX9_init_0 rfl rfl ?_
  refine wb_obj dX9_init_1 oi_9 oiI oiC (Nat.le_of_ble_eq_true rfl) (Nat.le_of_ble_eq_true rfl) ?_
  refine wb_aload_n dX9_init_4 rfl rfl ?_
  refine wb_sipush (v := 900) dX9_init_5 rfl ?_
  refine wb_newa (N := 900) (n' := 3) dX9_init_8 acB rfl kd_2 (Or.inr (Or.inl ⟨rfl, rfl⟩)) (by decide) rfl (by decide) (by decide) (Nat.le_of_ble_eq_true rfl) (Nat.le_of_ble_eq_true rfl) rfl rfl rfl (fun z1 _ => ?_)
  have s1 := St_arr (n' := 3) s0 kd_2 (Or.inr (Or.inl rfl)) z1 rfl
  refine wb_putR hm dX9_init_10 fl_9_9 okC9 kd_1 (by decide) (by decide) rfl rfl (by decide) (fun _ => rfl) (fun _ => rfl) ?_
  have s2 := St_put (k := 0) (r := 2) s1
  refine wb_vret dX9_init_13 rfl rfl rfl rfl (St_fin s2 kd_1 ?_ ?_)
  · intro k hk
    rcases cls_9 k hk with rfl
    · rw [rf_1_0]; rfl
  · exact (Iv_o kd_1 (by decide)).symm
theorem dX10_init_0 : decode cX10_init 0 = .ok (.aload_n 0, 1) := by decide +kernel
theorem dX10_init_1 : decode cX10_init 1 = .ok (.invokespecial 3, 3) := by decide +kernel
theorem dX10_init_4 : decode cX10_init 4 = .ok (.aload_n 0, 1) := by decide +kernel
theorem dX10_init_5 : decode cX10_init 5 = .ok (.aload_n 1, 1) := by decide +kernel
theorem dX10_init_6 : decode cX10_init 6 = .ok (.putfield 9, 3) := by decide +kernel
theorem dX10_init_9 : decode cX10_init 9 = .ok (.aload_n 0, 1) := by decide +kernel
theorem dX10_init_10 : decode cX10_init 10 = .ok (.aload_n 2, 1) := by decide +kernel
theorem dX10_init_11 : decode cX10_init 11 = .ok (.putfield 15, 3) := by decide +kernel
theorem dX10_init_14 : decode cX10_init 14 = .ok (.return_, 1) := by decide +kernel
theorem nX10 {R0 : MR} {I0 : MI} (hz : I0 44 = fun _ => 0) (hr : R0 44 = fun _ => none) : WC mX10_init 0 0 45 45 [.ref 44, .ref 24, .ref 30] R0 I0 (Qc 44 45 R0 I0) := by
  intro G ad0 A p l e s m args below meth c hm
  show WB G ad0 _ A p l e _ s m args below meth c _ mX10_init 0 0 _ R0 0 [some (.ref 44), some (.ref 24), some (.ref 30)] [] I0
  have s0 := St_0 hz hr
  refine wb_aload_n dX10_init_0 rfl rfl ?_
  refine wb_obj dX10_init_1 oi_10 oiI oiC (Nat.le_of_ble_eq_true rfl) (Nat.le_of_ble_eq_true rfl) ?_
  refine wb_aload_n dX10_init_4 rfl rfl ?_
  refine wb_aload_n dX10_init_5 rfl rfl ?_
  refine wb_putR hm dX10_init_6 fl_10_9 okC10 kd_44 (by decide) (by decide) rfl rfl (by decide) (fun _ => rfl) (fun _ => rfl) ?_
  have s1 := St_put (k := 0) (r := 24) s0
  refine wb_aload_n dX10_init_9 rfl rfl ?_
  refine wb_aload_n dX10_init_10 rfl rfl ?_
  refine wb_putR hm dX10_init_11 fl_10_15 okC10 kd_44 (by decide) (by decide) rfl rfl (by decide) (fun _ => rfl) (fun _ => rfl) ?_
  have s2 := St_put (k := 1) (r := 30) s1
  refine wb_vret dX10_init_14 rfl rfl rfl rfl (St_fin s2 kd_44 ?_ ?_)
  · intro k hk
    rcases cls_10 k hk with rfl | rfl
    · rw [rf_44_0]; rfl
    · rw [rf_44_1]; rfl
  · exact (Iv_o kd_44 (by decide)).symm
theorem dX4_init_0 : decode cX4_init 0 = .ok (.aload_n 0, 1) := by decide +kernel
theorem dX4_init_1 : decode cX4_init 1 = .ok (.invokespecial 3, 3) := by decide +kernel
theorem dX4_init_4 : decode cX4_init 4 = .ok (.aload_n 0, 1) := by decide +kernel
theorem dX4_init_5 : decode cX4_init 5 = .ok (.bipush 10, 2) := by decide +kernel
theorem dX4_init_7 : decode cX4_init 7 = .ok (.newarray .int, 2) := by decide +kernel
theorem dX4_init_9 : decode cX4_init 9 = .ok (.putfield 9, 3) := by decide +kernel
theorem dX4_init_12 : decode cX4_init 12 = .ok (.aload_n 0, 1) := by decide +kernel
theorem dX4_init_13 : decode cX4_init 13 = .ok (.bipush 10, 2) := by decide +kernel
theorem dX4_init_15 : decode cX4_init 15 = .ok (.newarray .int, 2) := by decide +kernel
theorem dX4_init_17 : decode cX4_init 17 = .ok (.putfield 15, 3) := by decide +kernel
theorem dX4_init_20 : decode cX4_init 20 = .ok (.aload_n 0, 1) := by decide +kernel
theorem dX4_init_21 : decode cX4_init 21 = .ok (.aload_n 1, 1) := by decide +kernel
theorem dX4_init_22 : decode cX4_init 22 = .ok (.putfield 18, 3) := by decide +kernel
theorem dX4_init_25 : decode cX4_init 25 = .ok (.aload_n 0, 1) := by decide +kernel
theorem dX4_init_26 : decode cX4_init 26 = .ok (.aload_n 2, 1) := by decide +kernel
theorem dX4_init_27 : decode cX4_init 27 = .ok (.putfield 22, 3) := by decide +kernel
theorem dX4_init_30 : decode cX4_init 30 = .ok (.return_, 1) := by decide +kernel
theorem nX4 {R0 : MR} {I0 : MI} (hz : I0 45 = fun _ => 0) (hr : R0 45 = fun _ => none) : WC mX4_init 2 20 46 48 [.ref 45, .ref 24, .ref 30] R0 I0 (Qc 45 48 R0 I0) := by
  intro G ad0 A p l e s m args below meth c hm
  show WB G ad0 _ A p l e _ s m args below meth c _ mX4_init 0 0 _ R0 0 [some (.ref 45), some (.ref 24), some (.ref 30)] [] I0
  have s0 := St_0 hz hr
  refine wb_aload_n dX4_init_0 rfl rfl ?_
  refine wb_obj dX4_init_1 oi_4 oiI oiC (Nat.le_of_ble_eq_true rfl) (Nat.le_of_ble_eq_true rfl) ?_
  refine wb_aload_n dX4_init_4 rfl rfl ?_
  refine wb_bipush (v := 10) dX4_init_5 rfl ?_
  refine wb_newa (N := 10) (n' := 47) dX4_init_7 acI rfl kd_46 (Or.inl ⟨rfl, rfl⟩) (by decide) rfl (by decide) (by decide) (Nat.le_of_ble_eq_true rfl) (Nat.le_of_ble_eq_true rfl) rfl rfl rfl (fun z1 _ => ?_)
  have s1 := St_arr (n' := 47) s0 kd_46 (Or.inl rfl) z1 rfl
  refine wb_putR hm dX4_init_9 fl_4_9 okC4 kd_45 (by decide) (by decide) rfl rfl (by decide) (fun _ => rfl) (fun _ => rfl) ?_
  have s2 := St_put (k := 2) (r := 46) s1
  refine wb_aload_n dX4_init_12 rfl rfl ?_
  refine wb_bipush (v := 10) dX4_init_13 rfl ?_
  refine wb_newa (N := 10) (n' := 48) dX4_init_15 acI rfl kd_47 (Or.inl ⟨rfl, rfl⟩) (by decide) rfl (by decide) (by decide) (Nat.le_of_ble_eq_true rfl) (Nat.le_of_ble_eq_true rfl) rfl rfl rfl (fun z3 _ => ?_)
  have s3 := St_arr (n' := 48) s2 kd_47 (Or.inl rfl) z3 rfl
  refine wb_putR hm dX4_init_17 fl_4_15 okC4 kd_45 (by decide) (by decide) rfl rfl (by decide) (fun _ => rfl) (fun _ => rfl) ?_
  have s4 := St_put (k := 3) (r := 47) s3
  refine wb_aload_n dX4_init_20 rfl rfl ?_
  refine wb_aload_n dX4_init_21 rfl rfl ?_
  refine wb_putR hm dX4_init_22 fl_4_18 okC4 kd_45 (by decide) (by decide) rfl rfl (by decide) (fun _ => rfl) (fun _ => rfl) ?_
  have s5 := St_put (k := 0) (r := 24) s4
  refine wb_aload_n dX4_init_25 rfl rfl ?_
  refine wb_aload_n dX4_init_26 rfl rfl ?_
  refine wb_putR hm dX4_init_27 fl_4_22 okC4 kd_45 (by decide) (by decide) rfl rfl (by decide) (fun _ => rfl) (fun _ => rfl) ?_
  have s6 := St_put (k := 1) (r := 30) s5
  refine wb_vret dX4_init_30 rfl rfl rfl rfl (St_fin s6 kd_45 ?_ ?_)
  · intro k hk
    rcases cls_4 k hk with rfl | rfl | rfl | rfl
    · rw [rf_45_0]; rfl
    · rw [rf_45_1]; rfl
    · rw [rf_45_2]; rfl
    · rw [rf_45_3]; rfl
  · exact (Iv_o kd_45 (by decide)).symm
theorem dX5_init_0 : decode cX5_init 0 = .ok (.aload_n 0, 1) := by decide +kernel
theorem dX5_init_1 : decode cX5_init 1 = .ok (.invokespecial 3, 3) := by decide +kernel
theorem dX5_init_4 : decode cX5_init 4 = .ok (.aload_n 0, 1) := by decide +kernel
theorem dX5_init_5 : decode cX5_init 5 = .ok (.new 9, 3) := by decide +kernel
theorem dX5_init_8 : decode cX5_init 8 = .ok (.dup, 1) := by decide +kernel
theorem dX5_init_9 : decode cX5_init 9 = .ok (.invokespecial 11, 3) := by decide +kernel
theorem dX5_init_12 : decode cX5_init 12 = .ok (.putfield 12, 3) := by decide +kernel
theorem dX5_init_15 : decode cX5_init 15 = .ok (.aload_n 0, 1) := by decide +kernel
theorem dX5_init_16 : decode cX5_init 16 = .ok (.new 18, 3) := by decide +kernel
theorem dX5_init_19 : decode cX5_init 19 = .ok (.dup, 1) := by decide +kernel
theorem dX5_init_20 : decode cX5_init 20 = .ok (.invokespecial 20, 3) := by decide +kernel
theorem dX5_init_23 : decode cX5_init 23 = .ok (.putfield 21, 3) := by decide +kernel
theorem dX5_init_26 : decode cX5_init 26 = .ok (.aload_n 0, 1) := by decide +kernel
theorem dX5_init_27 : decode cX5_init 27 = .ok (.aload_n 1, 1) := by decide +kernel
theorem dX5_init_28 : decode cX5_init 28 = .ok (.putfield 25, 3) := by decide +kernel
theorem dX5_init_31 : decode cX5_init 31 = .ok (.return_, 1) := by decide +kernel
theorem nX5 {R0 : MR} {I0 : MI} (hz : I0 3 = fun _ => 0) (hr : R0 3 = fun _ => none) : WC mX5_init 20 424 4 24 [.ref 3, .ref 1] R0 I0 (Qc 3 24 R0 I0) := by
  intro G ad0 A p l e s m args below meth c hm
  show WB G ad0 _ A p l e _ s m args below meth c _ mX5_init 0 0 _ R0 0 [some (.ref 3), some (.ref 1)] [] I0
  have s0 := St_0 hz hr
  refine wb_aload_n dX5_init_0 rfl rfl ?_
  refine wb_obj dX5_init_1 oi_5 oiI oiC (Nat.le_of_ble_eq_true rfl) (Nat.le_of_ble_eq_true rfl) ?_
  refine wb_aload_n dX5_init_4 rfl rfl ?_
  refine wb_new (N := 12) (n' := 5) dX5_init_5 cl_5_9 in_6 ini_6 okC6 kd_4 (by decide) dv_6 (Nat.le_of_ble_eq_true rfl) (Nat.le_of_ble_eq_true rfl) rfl rfl rfl (fun hz1 hr1 => ?_)
  refine wb_dup dX5_init_8 rfl ?_
  refine wb_ctor (As := []) (nE := 10) dX5_init_9 (Or.inl ml_5_11) okX6_init im_6 rfl rfl rfl (Nat.le_of_ble_eq_true rfl) ⟨(Nat.le_of_ble_eq_true rfl), (Nat.le_of_ble_eq_true rfl)⟩ ⟨(Nat.le_of_ble_eq_true rfl), (Nat.le_of_ble_eq_true rfl)⟩ (Nat.le_of_ble_eq_true rfl) rfl rfl (by decide) (fun hi => nX6 (by decide +kernel) hz1 hr1) (fun R1 I1 hi1 q1 => ?_)
  have s1 := St_call s0 (by decide) (by decide) q1
  refine wb_putR hm dX5_init_12 fl_5_12 okC5 kd_3 (by decide) (by decide) rfl rfl (by decide) (fun _ => rfl) (fun _ => rfl) ?_
  have s2 := St_put (k := 1) (r := 4) s1
  refine wb_aload_n dX5_init_15 rfl rfl ?_
  refine wb_new (N := 12) (n' := 11) dX5_init_16 cl_5_18 in_8 ini_8 okC8 kd_10 (by decide) dv_8 (Nat.le_of_ble_eq_true rfl) (Nat.le_of_ble_eq_true rfl) rfl rfl rfl (fun hz7 hr7 => ?_)
  refine wb_dup dX5_init_19 rfl ?_
  refine wb_ctor (As := []) (nE := 24) dX5_init_20 (Or.inr (by decide)) okX8_init im_8 rfl rfl rfl (Nat.le_of_ble_eq_true rfl) ⟨(Nat.le_of_ble_eq_true rfl), (Nat.le_of_ble_eq_true rfl)⟩ ⟨(Nat.le_of_ble_eq_true rfl), (Nat.le_of_ble_eq_true rfl)⟩ (Nat.le_of_ble_eq_true rfl) rfl rfl (by decide) (fun hi => nX8 (by decide +kernel) hz7 hr7) (fun R3 I3 hi3 q3 => ?_)
  have s3 := St_call s2 (by decide) (by decide) q3
  refine wb_putR hm dX5_init_23 fl_5_21 okC5 kd_3 (by decide) (by decide) rfl rfl (by decide) (fun _ => rfl) (fun _ => rfl) ?_
  have s4 := St_put (k := 2) (r := 10) s3
  refine wb_aload_n dX5_init_26 rfl rfl ?_
  refine wb_aload_n dX5_init_27 rfl rfl ?_
  refine wb_putR hm dX5_init_28 fl_5_25 okC5 kd_3 (by decide) (by decide) rfl rfl (by decide) (fun _ => rfl) (fun _ => rfl) ?_
  have s5 := St_put (k := 0) (r := 1) s4
  refine wb_vret dX5_init_31 rfl rfl rfl rfl (St_fin s5 kd_3 ?_ ?_)
  · intro k hk
    rcases cls_5 k hk with rfl | rfl | rfl
    · rw [rf_3_0]; rfl
    · rw [rf_3_1]; rfl
    · rw [rf_3_2]; rfl
  · exact (Iv_o kd_3 (by decide)).symm
theorem dX1_init_0 : decode cX1_init 0 = .ok (.aload_n 0, 1) := by decide +kernel
theorem dX1_init_1 : decode cX1_init 1 = .ok (.invokespecial 3, 3) := by decide +kernel
theorem dX1_init_4 : decode cX1_init 4 = .ok (.aload_n 0, 1) := by decide +kernel
theorem dX1_init_5 : decode cX1_init 5 = .ok (.new 9, 3) := by decide +kernel
theorem dX1_init_8 : decode cX1_init 8 = .ok (.dup, 1) := by decide +kernel
theorem dX1_init_9 : decode cX1_init 9 = .ok (.invokespecial 11, 3) := by decide +kernel
theorem dX1_init_12 : decode cX1_init 12 = .ok (.putfield 12, 3) := by decide +kernel
theorem dX1_init_15 : decode cX1_init 15 = .ok (.aload_n 0, 1) := by decide +kernel
theorem dX1_init_16 : decode cX1_init 16 = .ok (.bipush 10, 2) := by decide +kernel
theorem dX1_init_18 : decode cX1_init 18 = .ok (.newarray .int, 2) := by decide +kernel
theorem dX1_init_20 : decode cX1_init 20 = .ok (.putfield 18, 3) := by decide +kernel
theorem dX1_init_23 : decode cX1_init 23 = .ok (.aload_n 0, 1) := by decide +kernel
theorem dX1_init_24 : decode cX1_init 24 = .ok (.sipush 5120, 3) := by decide +kernel
theorem dX1_init_27 : decode cX1_init 27 = .ok (.newarray .int, 2) := by decide +kernel
theorem dX1_init_29 : decode cX1_init 29 = .ok (.putfield 22, 3) := by decide +kernel
theorem dX1_init_32 : decode cX1_init 32 = .ok (.aload_n 0, 1) := by decide +kernel
theorem dX1_init_33 : decode cX1_init 33 = .ok (.sipush 5120, 3) := by decide +kernel
theorem dX1_init_36 : decode cX1_init 36 = .ok (.newarray .int, 2) := by decide +kernel
theorem dX1_init_38 : decode cX1_init 38 = .ok (.putfield 25, 3) := by decide +kernel
theorem dX1_init_41 : decode cX1_init 41 = .ok (.aload_n 0, 1) := by decide +kernel
theorem dX1_init_42 : decode cX1_init 42 = .ok (.ldc 28, 2) := by decide +kernel
theorem dX1_init_44 : decode cX1_init 44 = .ok (.putfield 29, 3) := by decide +kernel
theorem dX1_init_47 : decode cX1_init 47 = .ok (.aload_n 0, 1) := by decide +kernel
theorem dX1_init_48 : decode cX1_init 48 = .ok (.aload_n 1, 1) := by decide +kernel
theorem dX1_init_49 : decode cX1_init 49 = .ok (.putfield 33, 3) := by decide +kernel
theorem dX1_init_52 : decode cX1_init 52 = .ok (.aload_n 0, 1) := by decide +kernel
theorem dX1_init_53 : decode cX1_init 53 = .ok (.aload_n 2, 1) := by decide +kernel
theorem dX1_init_54 : decode cX1_init 54 = .ok (.putfield 37, 3) := by decide +kernel
theorem dX1_init_57 : decode cX1_init 57 = .ok (.aload_n 0, 1) := by decide +kernel
theorem dX1_init_58 : decode cX1_init 58 = .ok (.aload_n 3, 1) := by decide +kernel
theorem dX1_init_59 : decode cX1_init 59 = .ok (.putfield 41, 3) := by decide +kernel
theorem dX1_init_62 : decode cX1_init 62 = .ok (.return_, 1) := by decide +kernel
theorem nX1 {R0 : MR} {I0 : MI} (hz : I0 50 = fun _ => 0) (hr : R0 50 = fun _ => none) : WC mX1_init 5 10262 51 56 [.ref 50, .ref 24, .ref 44, .ref 45] R0 I0 (Qc 50 56 R0 I0) := by
  intro G ad0 A p l e s m args below meth c hm
  show WB G ad0 _ A p l e _ s m args below meth c _ mX1_init 0 0 _ R0 0 [some (.ref 50), some (.ref 24), some (.ref 44), some (.ref 45)] [] I0
  have s0 := St_0 hz hr
  refine wb_aload_n dX1_init_0 rfl rfl ?_
  refine wb_obj dX1_init_1 oi_1 oiI oiC (Nat.le_of_ble_eq_true rfl) (Nat.le_of_ble_eq_true rfl) ?_
  refine wb_aload_n dX1_init_4 rfl rfl ?_
  refine wb_new (N := 2) (n' := 52) dX1_init_5 cl_1_9 in_7 ini_7 okC7 kd_51 (by decide) dv_7 (Nat.le_of_ble_eq_true rfl) (Nat.le_of_ble_eq_true rfl) rfl rfl rfl (fun hz1 hr1 => ?_)
  refine wb_dup dX1_init_8 rfl ?_
  refine wb_ctor (As := []) (nE := 53) dX1_init_9 (Or.inr (by decide)) okX7_init im_7 rfl rfl rfl (Nat.le_of_ble_eq_true rfl) ⟨(Nat.le_of_ble_eq_true rfl), (Nat.le_of_ble_eq_true rfl)⟩ ⟨(Nat.le_of_ble_eq_true rfl), (Nat.le_of_ble_eq_true rfl)⟩ (Nat.le_of_ble_eq_true rfl) rfl rfl (by decide) (fun hi => nX7 (by decide +kernel) hz1 hr1) (fun R1 I1 hi1 q1 => ?_)
  have s1 := St_call s0 (by decide) (by decide) q1
  refine wb_putR hm dX1_init_12 fl_1_12 okC1 kd_50 (by decide) (by decide) rfl rfl (by decide) (fun _ => rfl) (fun _ => rfl) ?_
  have s2 := St_put (k := 3) (r := 51) s1
  refine wb_aload_n dX1_init_15 rfl rfl ?_
  refine wb_bipush (v := 10) dX1_init_16 rfl ?_
  refine wb_newa (N := 10) (n' := 54) dX1_init_18 acI rfl kd_53 (Or.inl ⟨rfl, rfl⟩) (by decide) rfl (by decide) (by decide) (Nat.le_of_ble_eq_true rfl) (Nat.le_of_ble_eq_true rfl) rfl rfl rfl (fun z3 _ => ?_)
  have s3 := St_arr (n' := 54) s2 kd_53 (Or.inl rfl) z3 rfl
  refine wb_putR hm dX1_init_20 fl_1_18 okC1 kd_50 (by decide) (by decide) rfl rfl (by decide) (fun _ => rfl) (fun _ => rfl) ?_
  have s4 := St_put (k := 4) (r := 53) s3
  refine wb_aload_n dX1_init_23 rfl rfl ?_
  refine wb_sipush (v := 5120) dX1_init_24 rfl ?_
  refine wb_newa (N := 5120) (n' := 55) dX1_init_27 acI rfl kd_54 (Or.inl ⟨rfl, rfl⟩) (by decide) rfl (by decide) (by decide) (Nat.le_of_ble_eq_true rfl) (Nat.le_of_ble_eq_true rfl) rfl rfl rfl (fun z5 _ => ?_)
  have s5 := St_arr (n' := 55) s4 kd_54 (Or.inl rfl) z5 rfl
  refine wb_putR hm dX1_init_29 fl_1_22 okC1 kd_50 (by decide) (by decide) rfl rfl (by decide) (fun _ => rfl) (fun _ => rfl) ?_
  have s6 := St_put (k := 5) (r := 54) s5
  refine wb_aload_n dX1_init_32 rfl rfl ?_
  refine wb_sipush (v := 5120) dX1_init_33 rfl ?_
  refine wb_newa (N := 5120) (n' := 56) dX1_init_36 acI rfl kd_55 (Or.inl ⟨rfl, rfl⟩) (by decide) rfl (by decide) (by decide) (Nat.le_of_ble_eq_true rfl) (Nat.le_of_ble_eq_true rfl) rfl rfl rfl (fun z7 _ => ?_)
  have s7 := St_arr (n' := 56) s6 kd_55 (Or.inl rfl) z7 rfl
  refine wb_putR hm dX1_init_38 fl_1_25 okC1 kd_50 (by decide) (by decide) rfl rfl (by decide) (fun _ => rfl) (fun _ => rfl) ?_
  have s8 := St_put (k := 6) (r := 55) s7
  refine wb_aload_n dX1_init_41 rfl rfl ?_
  refine wb_ldc dX1_init_42 kl_1_28 ?_
  refine wb_putI dX1_init_44 fl_1_29 okC1 kd_50 (by decide) (by decide) rfl rfl rfl ?_
  have s9 := St_putI (k := 8) (x := 2147483647) s8
  refine wb_aload_n dX1_init_47 rfl rfl ?_
  refine wb_aload_n dX1_init_48 rfl rfl ?_
  refine wb_putR hm dX1_init_49 fl_1_33 okC1 kd_50 (by decide) (by decide) rfl rfl (by decide) (fun _ => rfl) (fun _ => rfl) ?_
  have s10 := St_put (k := 0) (r := 24) s9
  refine wb_aload_n dX1_init_52 rfl rfl ?_
  refine wb_aload_n dX1_init_53 rfl rfl ?_
  refine wb_putR hm dX1_init_54 fl_1_37 okC1 kd_50 (by decide) (by decide) rfl rfl (by decide) (fun _ => rfl) (fun _ => rfl) ?_
  have s11 := St_put (k := 1) (r := 44) s10
  refine wb_aload_n dX1_init_57 rfl rfl ?_
  refine wb_aload_n dX1_init_58 rfl rfl ?_
  refine wb_putR hm dX1_init_59 fl_1_41 okC1 kd_50 (by decide) (by decide) rfl rfl (by decide) (fun _ => rfl) (fun _ => rfl) ?_
  have s12 := St_put (k := 2) (r := 45) s11
  refine wb_vret dX1_init_62 rfl rfl rfl rfl (St_fin s12 kd_50 ?_ ?_)
  · intro k hk
    rcases cls_1 k hk with rfl | rfl | rfl | rfl | rfl | rfl | rfl
    · rw [rf_50_0]; rfl
    · rw [rf_50_1]; rfl
    · rw [rf_50_2]; rfl
    · rw [rf_50_3]; rfl
    · rw [rf_50_4]; rfl
    · rw [rf_50_5]; rfl
    · rw [rf_50_6]; rfl
  · rw [Iv_1 kd_50]
    funext k
    simp only [upd]
theorem dX0_init_0 : decode cX0_init 0 = .ok (.aload_n 0, 1) := by decide +kernel
theorem dX0_init_1 : decode cX0_init 1 = .ok (.invokespecial 3, 3) := by decide +kernel
theorem dX0_init_4 : decode cX0_init 4 = .ok (.aload_n 0, 1) := by decide +kernel
theorem dX0_init_5 : decode cX0_init 5 = .ok (.new 9, 3) := by decide +kernel
theorem dX0_init_8 : decode cX0_init 8 = .ok (.dup, 1) := by decide +kernel
theorem dX0_init_9 : decode cX0_init 9 = .ok (.invokespecial 11, 3) := by decide +kernel
theorem dX0_init_12 : decode cX0_init 12 = .ok (.putfield 12, 3) := by decide +kernel
theorem dX0_init_15 : decode cX0_init 15 = .ok (.aload_n 0, 1) := by decide +kernel
theorem dX0_init_16 : decode cX0_init 16 = .ok (.aload_n 1, 1) := by decide +kernel
theorem dX0_init_17 : decode cX0_init 17 = .ok (.putfield 18, 3) := by decide +kernel
theorem dX0_init_20 : decode cX0_init 20 = .ok (.aload_n 0, 1) := by decide +kernel
theorem dX0_init_21 : decode cX0_init 21 = .ok (.aload_n 2, 1) := by decide +kernel
theorem dX0_init_22 : decode cX0_init 22 = .ok (.putfield 22, 3) := by decide +kernel
theorem dX0_init_25 : decode cX0_init 25 = .ok (.aload_n 0, 1) := by decide +kernel
theorem dX0_init_26 : decode cX0_init 26 = .ok (.aload_n 3, 1) := by decide +kernel
theorem dX0_init_27 : decode cX0_init 27 = .ok (.putfield 26, 3) := by decide +kernel
theorem dX0_init_30 : decode cX0_init 30 = .ok (.aload_n 0, 1) := by decide +kernel
theorem dX0_init_31 : decode cX0_init 31 = .ok (.aload 4, 2) := by decide +kernel
theorem dX0_init_33 : decode cX0_init 33 = .ok (.putfield 30, 3) := by decide +kernel
theorem dX0_init_36 : decode cX0_init 36 = .ok (.return_, 1) := by decide +kernel
theorem nX0 {R0 : MR} {I0 : MI} (hz : I0 56 = fun _ => 0) (hr : R0 56 = fun _ => none) : WC mX0_init 4 42 57 61 [.ref 56, .ref 24, .ref 30, .ref 44, .ref 45] R0 I0 (Qc 56 61 R0 I0) := by
  intro G ad0 A p l e s m args below meth c hm
  show WB G ad0 _ A p l e _ s m args below meth c _ mX0_init 0 0 _ R0 0 [some (.ref 56), some (.ref 24), some (.ref 30), some (.ref 44), some (.ref 45)] [] I0
  have s0 := St_0 hz hr
  refine wb_aload_n dX0_init_0 rfl rfl ?_
  refine wb_obj dX0_init_1 oi_0 oiI oiC (Nat.le_of_ble_eq_true rfl) (Nat.le_of_ble_eq_true rfl) ?_
  refine wb_aload_n dX0_init_4 rfl rfl ?_
  refine wb_new (N := 6) (n' := 58) dX0_init_5 cl_0_9 in_3 ini_3 okC3 kd_57 (by decide) dv_3 (Nat.le_of_ble_eq_true rfl) (Nat.le_of_ble_eq_true rfl) rfl rfl rfl (fun hz1 hr1 => ?_)
  refine wb_dup dX0_init_8 rfl ?_
  refine wb_ctor (As := []) (nE := 61) dX0_init_9 (Or.inl ml_0_11) okX3_init im_3 rfl rfl rfl (Nat.le_of_ble_eq_true rfl) ⟨(Nat.le_of_ble_eq_true rfl), (Nat.le_of_ble_eq_true rfl)⟩ ⟨(Nat.le_of_ble_eq_true rfl), (Nat.le_of_ble_eq_true rfl)⟩ (Nat.le_of_ble_eq_true rfl) rfl rfl (by decide) (fun hi => nX3 (by decide +kernel) hz1 hr1) (fun R1 I1 hi1 q1 => ?_)
  have s1 := St_call s0 (by decide) (by decide) q1
  refine wb_putR hm dX0_init_12 fl_0_12 okC0 kd_56 (by decide) (by decide) rfl rfl (by decide) (fun _ => rfl) (fun _ => rfl) ?_
  have s2 := St_put (k := 4) (r := 57) s1
  refine wb_aload_n dX0_init_15 rfl rfl ?_
  refine wb_aload_n dX0_init_16 rfl rfl ?_
  refine wb_putR hm dX0_init_17 fl_0_18 okC0 kd_56 (by decide) (by decide) rfl rfl (by decide) (fun _ => rfl) (fun _ => rfl) ?_
  have s3 := St_put (k := 0) (r := 24) s2
  refine wb_aload_n dX0_init_20 rfl rfl ?_
  refine wb_aload_n dX0_init_21 rfl rfl ?_
  refine wb_putR hm dX0_init_22 fl_0_22 okC0 kd_56 (by decide) (by decide) rfl rfl (by decide) (fun _ => rfl) (fun _ => rfl) ?_
  have s4 := St_put (k := 1) (r := 30) s3
  refine wb_aload_n dX0_init_25 rfl rfl ?_
  refine wb_aload_n dX0_init_26 rfl rfl ?_
  refine wb_putR hm dX0_init_27 fl_0_26 okC0 kd_56 (by decide) (by decide) rfl rfl (by decide) (fun _ => rfl) (fun _ => rfl) ?_
  have s5 := St_put (k := 2) (r := 44) s4
  refine wb_aload_n dX0_init_30 rfl rfl ?_
  refine wb_aload dX0_init_31 rfl ?_
  refine wb_putR hm dX0_init_33 fl_0_30 okC0 kd_56 (by decide) (by decide) rfl rfl (by decide) (fun _ => rfl) (fun _ => rfl) ?_
  have s6 := St_put (k := 3) (r := 45) s5
  refine wb_vret dX0_init_36 rfl rfl rfl rfl (St_fin s6 kd_56 ?_ ?_)
  · intro k hk
    rcases cls_0 k hk with rfl | rfl | rfl | rfl | rfl
    · rw [rf_56_0]; rfl
    · rw [rf_56_1]; rfl
    · rw [rf_56_2]; rfl
    · rw [rf_56_3]; rfl
    · rw [rf_56_4]; rfl
  · exact (Iv_o kd_56 (by decide)).symm
