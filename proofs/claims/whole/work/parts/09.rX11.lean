theorem dX11_append_0 : decode cX11_append 0 = .ok (.aload_n 0, 1) := by decide +kernel
theorem dX11_append_1 : decode cX11_append 1 = .ok (.getfield 10, 3) := by decide +kernel
theorem dX11_append_4 : decode cX11_append 4 = .ok (.getfield 95, 3) := by decide +kernel
theorem dX11_append_7 : decode cX11_append 7 = .ok (.bipush 20, 2) := by decide +kernel
theorem dX11_append_9 : decode cX11_append 9 = .ok (.iadd, 1) := by decide +kernel
theorem dX11_append_10 : decode cX11_append 10 = .ok (.sipush 900, 3) := by decide +kernel
theorem dX11_append_13 : decode cX11_append 13 = .ok (.if_icmp .le 5, 3) := by decide +kernel
theorem dX11_append_16 : decode cX11_append 16 = .ok (.iconst (-1), 1) := by decide +kernel
theorem dX11_append_17 : decode cX11_append 17 = .ok (.ireturn, 1) := by decide +kernel
theorem dX11_append_18 : decode cX11_append 18 = .ok (.aload_n 0, 1) := by decide +kernel
theorem dX11_append_19 : decode cX11_append 19 = .ok (.getfield 10, 3) := by decide +kernel
theorem dX11_append_22 : decode cX11_append 22 = .ok (.iload_n 1, 1) := by decide +kernel
theorem dX11_append_23 : decode cX11_append 23 = .ok (.invokevirtual 99, 3) := by decide +kernel
theorem dX11_append_26 : decode cX11_append 26 = .ok (.aload_n 0, 1) := by decide +kernel
theorem dX11_append_27 : decode cX11_append 27 = .ok (.getfield 10, 3) := by decide +kernel
theorem dX11_append_30 : decode cX11_append 30 = .ok (.iload_n 2, 1) := by decide +kernel
theorem dX11_append_31 : decode cX11_append 31 = .ok (.invokevirtual 99, 3) := by decide +kernel
theorem dX11_append_34 : decode cX11_append 34 = .ok (.aload_n 0, 1) := by decide +kernel
theorem dX11_append_35 : decode cX11_append 35 = .ok (.getfield 10, 3) := by decide +kernel
theorem dX11_append_38 : decode cX11_append 38 = .ok (.iload_n 3, 1) := by decide +kernel
theorem dX11_append_39 : decode cX11_append 39 = .ok (.invokevirtual 99, 3) := by decide +kernel
theorem dX11_append_42 : decode cX11_append 42 = .ok (.aload_n 0, 1) := by decide +kernel
theorem dX11_append_43 : decode cX11_append 43 = .ok (.getfield 10, 3) := by decide +kernel
theorem dX11_append_46 : decode cX11_append 46 = .ok (.iload 4, 2) := by decide +kernel
theorem dX11_append_48 : decode cX11_append 48 = .ok (.invokevirtual 99, 3) := by decide +kernel
theorem dX11_append_51 : decode cX11_append 51 = .ok (.aload_n 0, 1) := by decide +kernel
theorem dX11_append_52 : decode cX11_append 52 = .ok (.getfield 10, 3) := by decide +kernel
theorem dX11_append_55 : decode cX11_append 55 = .ok (.iload 5, 2) := by decide +kernel
theorem dX11_append_57 : decode cX11_append 57 = .ok (.invokevirtual 99, 3) := by decide +kernel
theorem dX11_append_60 : decode cX11_append 60 = .ok (.aload_n 0, 1) := by decide +kernel
theorem dX11_append_61 : decode cX11_append 61 = .ok (.getfield 10, 3) := by decide +kernel
theorem dX11_append_64 : decode cX11_append 64 = .ok (.getfield 95, 3) := by decide +kernel
theorem dX11_append_67 : decode cX11_append 67 = .ok (.ireturn, 1) := by decide +kernel
set_option maxRecDepth 20000 in
theorem rX11_append {a1 a2 a3 a4 a5 : Int32} {I : MI} {Q : Int32 → MI → Prop} (H : ((((I 1 1) + 20) ≤ 900 → (Wv mX9_addFour [.ref 1, .int a1] I (fun I1 => (Wv mX9_addFour [.ref 1, .int a2] I1 (fun I2 => (Wv mX9_addFour [.ref 1, .int a3] I2 (fun I3 => (Wv mX9_addFour [.ref 1, .int a4] I3 (fun I4 => (Wv mX9_addFour [.ref 1, .int a5] I4 (fun I5 => (Q (I5 1 1) I5)))))))))))) ∧ (¬ ((I 1 1) + 20) ≤ 900 → (Q (-1) I)))) : Wi mX11_append [.ref 0, .int a1, .int a2, .int a3, .int a4, .int a5] I Q := by
  show WP mX11_append 286 Rf0 0 [some (.ref 0), some (.int a1), some (.int a2), some (.int a3), some (.int a4), some (.int a5)] [] I (qi Q)
  refine w_aload_n dX11_append_0 rfl rfl ?_
  refine w_getR dX11_append_1 fl_11_10 okC11 kd_0 (by decide) (by decide) rfl rf_0_0 ?_
  refine w_getI dX11_append_4 fl_11_95 okC9 kd_1 (by decide) (by decide) rfl ?_
  refine w_bipush (v := 20) dX11_append_7 (by decide) ?_
  refine w_iadd dX11_append_9 ?_
  refine w_sipush (v := 900) dX11_append_10 (by decide) ?_
  refine w_icmp_le (t := 18) dX11_append_13 (by decide) (fun h => ?_) (fun h => ?_)
  · replace H := H.1 h
    refine w_aload_n dX11_append_18 rfl rfl ?_
    refine w_getR dX11_append_19 fl_11_10 okC11 kd_0 (by decide) (by decide) rfl rf_0_0 ?_
    refine w_iload_n dX11_append_22 rfl rfl ?_
    refine w_callV (st := []) (As := [.int a1]) dX11_append_23 ml_11_99 okX9_addFour kd_1 (by decide) rfl rfl rfl (Nat.le_of_ble_eq_true rfl) (by decide) (Nat.le_of_ble_eq_true rfl) (wc_v H (fun I1 H => ?_))
    refine w_aload_n dX11_append_26 rfl rfl ?_
    refine w_getR dX11_append_27 fl_11_10 okC11 kd_0 (by decide) (by decide) rfl rf_0_0 ?_
    refine w_iload_n dX11_append_30 rfl rfl ?_
    refine w_callV (st := []) (As := [.int a2]) dX11_append_31 ml_11_99 okX9_addFour kd_1 (by decide) rfl rfl rfl (Nat.le_of_ble_eq_true rfl) (by decide) (Nat.le_of_ble_eq_true rfl) (wc_v H (fun I2 H => ?_))
    refine w_aload_n dX11_append_34 rfl rfl ?_
    refine w_getR dX11_append_35 fl_11_10 okC11 kd_0 (by decide) (by decide) rfl rf_0_0 ?_
    refine w_iload_n dX11_append_38 rfl rfl ?_
    refine w_callV (st := []) (As := [.int a3]) dX11_append_39 ml_11_99 okX9_addFour kd_1 (by decide) rfl rfl rfl (Nat.le_of_ble_eq_true rfl) (by decide) (Nat.le_of_ble_eq_true rfl) (wc_v H (fun I3 H => ?_))
    refine w_aload_n dX11_append_42 rfl rfl ?_
    refine w_getR dX11_append_43 fl_11_10 okC11 kd_0 (by decide) (by decide) rfl rf_0_0 ?_
    refine w_iload dX11_append_46 rfl ?_
    refine w_callV (st := []) (As := [.int a4]) dX11_append_48 ml_11_99 okX9_addFour kd_1 (by decide) rfl rfl rfl (Nat.le_of_ble_eq_true rfl) (by decide) (Nat.le_of_ble_eq_true rfl) (wc_v H (fun I4 H => ?_))
    refine w_aload_n dX11_append_51 rfl rfl ?_
    refine w_getR dX11_append_52 fl_11_10 okC11 kd_0 (by decide) (by decide) rfl rf_0_0 ?_
    refine w_iload dX11_append_55 rfl ?_
    refine w_callV (st := []) (As := [.int a5]) dX11_append_57 ml_11_99 okX9_addFour kd_1 (by decide) rfl rfl rfl (Nat.le_of_ble_eq_true rfl) (by decide) (Nat.le_of_ble_eq_true rfl) (wc_v H (fun I5 H => ?_))
    refine w_aload_n dX11_append_60 rfl rfl ?_
    refine w_getR dX11_append_61 fl_11_10 okC11 kd_0 (by decide) (by decide) rfl rf_0_0 ?_
    refine w_getI dX11_append_64 fl_11_95 okC9 kd_1 (by decide) (by decide) rfl ?_
    exact w_iret dX11_append_67 rfl ⟨_, rfl, H⟩
  · replace H := H.2 h
    refine w_iconst (v := (-1)) dX11_append_16 (by decide) ?_
    exact w_iret dX11_append_17 rfl ⟨_, rfl, H⟩
theorem dX11_parse_0 : decode cX11_parse 0 = .ok (.iload_n 1, 1) := by decide +kernel
theorem dX11_parse_1 : decode cX11_parse 1 = .ok (.ifCond .lt 14, 3) := by decide +kernel
theorem dX11_parse_4 : decode cX11_parse 4 = .ok (.iload_n 1, 1) := by decide +kernel
theorem dX11_parse_5 : decode cX11_parse 5 = .ok (.aload_n 0, 1) := by decide +kernel
theorem dX11_parse_6 : decode cX11_parse 6 = .ok (.getfield 10, 3) := by decide +kernel
theorem dX11_parse_9 : decode cX11_parse 9 = .ok (.getfield 95, 3) := by decide +kernel
theorem dX11_parse_12 : decode cX11_parse 12 = .ok (.if_icmp .le 5, 3) := by decide +kernel
theorem dX11_parse_15 : decode cX11_parse 15 = .ok (.iconst (-1), 1) := by decide +kernel
theorem dX11_parse_16 : decode cX11_parse 16 = .ok (.ireturn, 1) := by decide +kernel
theorem dX11_parse_17 : decode cX11_parse 17 = .ok (.aload_n 0, 1) := by decide +kernel
theorem dX11_parse_18 : decode cX11_parse 18 = .ok (.getfield 21, 3) := by decide +kernel
theorem dX11_parse_21 : decode cX11_parse 21 = .ok (.iload_n 1, 1) := by decide +kernel
theorem dX11_parse_22 : decode cX11_parse 22 = .ok (.invokevirtual 103, 3) := by decide +kernel
theorem dX11_parse_25 : decode cX11_parse 25 = .ok (.aload_n 0, 1) := by decide +kernel
theorem dX11_parse_26 : decode cX11_parse 26 = .ok (.getfield 10, 3) := by decide +kernel
theorem dX11_parse_29 : decode cX11_parse 29 = .ok (.iconst 0, 1) := by decide +kernel
theorem dX11_parse_30 : decode cX11_parse 30 = .ok (.putfield 95, 3) := by decide +kernel
theorem dX11_parse_33 : decode cX11_parse 33 = .ok (.aload_n 0, 1) := by decide +kernel
theorem dX11_parse_34 : decode cX11_parse 34 = .ok (.getfield 21, 3) := by decide +kernel
theorem dX11_parse_37 : decode cX11_parse 37 = .ok (.getfield 106, 3) := by decide +kernel
theorem dX11_parse_40 : decode cX11_parse 40 = .ok (.ifCond .eq 14, 3) := by decide +kernel
theorem dX11_parse_43 : decode cX11_parse 43 = .ok (.bipush (-2), 2) := by decide +kernel
theorem dX11_parse_45 : decode cX11_parse 45 = .ok (.aload_n 0, 1) := by decide +kernel
theorem dX11_parse_46 : decode cX11_parse 46 = .ok (.getfield 21, 3) := by decide +kernel
theorem dX11_parse_49 : decode cX11_parse 49 = .ok (.getfield 106, 3) := by decide +kernel
theorem dX11_parse_52 : decode cX11_parse 52 = .ok (.isub, 1) := by decide +kernel
theorem dX11_parse_53 : decode cX11_parse 53 = .ok (.ireturn, 1) := by decide +kernel
theorem dX11_parse_54 : decode cX11_parse 54 = .ok (.aload_n 0, 1) := by decide +kernel
theorem dX11_parse_55 : decode cX11_parse 55 = .ok (.getfield 28, 3) := by decide +kernel
theorem dX11_parse_58 : decode cX11_parse 58 = .ok (.aload_n 0, 1) := by decide +kernel
theorem dX11_parse_59 : decode cX11_parse 59 = .ok (.getfield 21, 3) := by decide +kernel
theorem dX11_parse_62 : decode cX11_parse 62 = .ok (.getfield 109, 3) := by decide +kernel
theorem dX11_parse_65 : decode cX11_parse 65 = .ok (.invokevirtual 110, 3) := by decide +kernel
theorem dX11_parse_68 : decode cX11_parse 68 = .ok (.aload_n 0, 1) := by decide +kernel
theorem dX11_parse_69 : decode cX11_parse 69 = .ok (.getfield 35, 3) := by decide +kernel
theorem dX11_parse_72 : decode cX11_parse 72 = .ok (.aload_n 0, 1) := by decide +kernel
theorem dX11_parse_73 : decode cX11_parse 73 = .ok (.getfield 21, 3) := by decide +kernel
theorem dX11_parse_76 : decode cX11_parse 76 = .ok (.getfield 114, 3) := by decide +kernel
theorem dX11_parse_79 : decode cX11_parse 79 = .ok (.invokevirtual 115, 3) := by decide +kernel
theorem dX11_parse_82 : decode cX11_parse 82 = .ok (.aload_n 0, 1) := by decide +kernel
theorem dX11_parse_83 : decode cX11_parse 83 = .ok (.getfield 83, 3) := by decide +kernel
theorem dX11_parse_86 : decode cX11_parse 86 = .ok (.invokevirtual 118, 3) := by decide +kernel
theorem dX11_parse_89 : decode cX11_parse 89 = .ok (.aload_n 0, 1) := by decide +kernel
theorem dX11_parse_90 : decode cX11_parse 90 = .ok (.invokevirtual 121, 3) := by decide +kernel
theorem dX11_parse_93 : decode cX11_parse 93 = .ok (.aload_n 0, 1) := by decide +kernel
theorem dX11_parse_94 : decode cX11_parse 94 = .ok (.getfield 67, 3) := by decide +kernel
theorem dX11_parse_97 : decode cX11_parse 97 = .ok (.invokevirtual 124, 3) := by decide +kernel
theorem dX11_parse_100 : decode cX11_parse 100 = .ok (.aload_n 0, 1) := by decide +kernel
theorem dX11_parse_101 : decode cX11_parse 101 = .ok (.getfield 28, 3) := by decide +kernel
theorem dX11_parse_104 : decode cX11_parse 104 = .ok (.getfield 127, 3) := by decide +kernel
theorem dX11_parse_107 : decode cX11_parse 107 = .ok (.ireturn, 1) := by decide +kernel
set_option maxRecDepth 20000 in
theorem rX11_parse {a1 : Int32} {I : MI} {Q : Int32 → MI → Prop} (H : ((a1 < 0 → (Q (-1) I)) ∧ (¬ a1 < 0 → ((a1 ≤ (I 1 1) → (Wv mX5_readRound [.ref 3, .int a1] I (fun I1 => (∀ I2 : MI, I2 = up2 I1 1 1 0 → ((I2 3 4) = 0 → (Wv mX6_copyFrom [.ref 24, .ref 4] I2 (fun I3 => (Wv mX8_copyFrom [.ref 30, .ref 10] I3 (fun I4 => (Wv mX2_clear [.ref 61] I4 (fun I5 => (Wv mX11_emptySlots [.ref 0] I5 (fun I6 => (Wv mX1_forget [.ref 50] I6 (fun I7 => (Q (I7 24 2) I7)))))))))))) ∧ (¬ (I2 3 4) = 0 → (Q ((-2) - (I2 3 4)) I2)))))) ∧ (¬ a1 ≤ (I 1 1) → (Q (-1) I)))))) : Wi mX11_parse [.ref 0, .int a1] I Q := by
  show WP mX11_parse 286 Rf0 0 [some (.ref 0), some (.int a1)] [] I (qi Q)
  refine w_iload_n dX11_parse_0 rfl rfl ?_
  refine w_if_lt (t := 15) dX11_parse_1 (by decide) (fun h => ?_) (fun h => ?_)
  · replace H := H.1 h
    refine w_iconst (v := (-1)) dX11_parse_15 (by decide) ?_
    exact w_iret dX11_parse_16 rfl ⟨_, rfl, H⟩
  · replace H := H.2 h
    refine w_iload_n dX11_parse_4 rfl rfl ?_
    refine w_aload_n dX11_parse_5 rfl rfl ?_
    refine w_getR dX11_parse_6 fl_11_10 okC11 kd_0 (by decide) (by decide) rfl rf_0_0 ?_
    refine w_getI dX11_parse_9 fl_11_95 okC9 kd_1 (by decide) (by decide) rfl ?_
    refine w_icmp_le (t := 17) dX11_parse_12 (by decide) (fun h => ?_) (fun h => ?_)
    · replace H := H.1 h
      refine w_aload_n dX11_parse_17 rfl rfl ?_
      refine w_getR dX11_parse_18 fl_11_21 okC11 kd_0 (by decide) (by decide) rfl rf_0_1 ?_
      refine w_iload_n dX11_parse_21 rfl rfl ?_
      refine w_callV (st := []) (As := [.int a1]) dX11_parse_22 ml_11_103 okX5_readRound kd_3 (by decide) rfl rfl rfl (Nat.le_of_ble_eq_true rfl) (by decide) (Nat.le_of_ble_eq_true rfl) (wc_v H (fun I1 H => ?_))
      refine w_aload_n dX11_parse_25 rfl rfl ?_
      refine w_getR dX11_parse_26 fl_11_10 okC11 kd_0 (by decide) (by decide) rfl rf_0_0 ?_
      refine w_iconst (v := 0) dX11_parse_29 (by decide) ?_
      refine w_putI dX11_parse_30 fl_11_95 okC9 kd_1 (by decide) (by decide) rfl rfl rfl (w_up fun I2 hI => ?_)
      replace H := H I2 hI
      refine w_aload_n dX11_parse_33 rfl rfl ?_
      refine w_getR dX11_parse_34 fl_11_21 okC11 kd_0 (by decide) (by decide) rfl rf_0_1 ?_
      refine w_getI dX11_parse_37 fl_11_106 okC5 kd_3 (by decide) (by decide) rfl ?_
      refine w_if_eq (t := 54) dX11_parse_40 (by decide) (fun h => ?_) (fun h => ?_)
      · replace H := H.1 h
        refine w_aload_n dX11_parse_54 rfl rfl ?_
        refine w_getR dX11_parse_55 fl_11_28 okC11 kd_0 (by decide) (by decide) rfl rf_0_2 ?_
        refine w_aload_n dX11_parse_58 rfl rfl ?_
        refine w_getR dX11_parse_59 fl_11_21 okC11 kd_0 (by decide) (by decide) rfl rf_0_1 ?_
        refine w_getR dX11_parse_62 fl_11_109 okC5 kd_3 (by decide) (by decide) rfl rf_3_1 ?_
        refine w_callV (st := []) (As := [.ref 4]) dX11_parse_65 ml_11_110 okX6_copyFrom kd_24 (by decide) rfl rfl rfl (Nat.le_of_ble_eq_true rfl) (by decide) (Nat.le_of_ble_eq_true rfl) (wc_v H (fun I3 H => ?_))
        refine w_aload_n dX11_parse_68 rfl rfl ?_
        refine w_getR dX11_parse_69 fl_11_35 okC11 kd_0 (by decide) (by decide) rfl rf_0_3 ?_
        refine w_aload_n dX11_parse_72 rfl rfl ?_
        refine w_getR dX11_parse_73 fl_11_21 okC11 kd_0 (by decide) (by decide) rfl rf_0_1 ?_
        refine w_getR dX11_parse_76 fl_11_114 okC5 kd_3 (by decide) (by decide) rfl rf_3_2 ?_
        refine w_callV (st := []) (As := [.ref 10]) dX11_parse_79 ml_11_115 okX8_copyFrom kd_30 (by decide) rfl rfl rfl (Nat.le_of_ble_eq_true rfl) (by decide) (Nat.le_of_ble_eq_true rfl) (wc_v H (fun I4 H => ?_))
        refine w_aload_n dX11_parse_82 rfl rfl ?_
        refine w_getR dX11_parse_83 fl_11_83 okC11 kd_0 (by decide) (by decide) rfl rf_0_9 ?_
        refine w_callV (st := []) (As := []) dX11_parse_86 ml_11_118 okX2_clear kd_61 (by decide) rfl rfl rfl (Nat.le_of_ble_eq_true rfl) (by decide) (Nat.le_of_ble_eq_true rfl) (wc_v H (fun I5 H => ?_))
        refine w_aload_n dX11_parse_89 rfl rfl ?_
        refine w_callV (st := []) (As := []) dX11_parse_90 ml_11_121 okX11_emptySlots kd_0 (by decide) rfl rfl rfl (Nat.le_of_ble_eq_true rfl) (by decide) (Nat.le_of_ble_eq_true rfl) (wc_v H (fun I6 H => ?_))
        refine w_aload_n dX11_parse_93 rfl rfl ?_
        refine w_getR dX11_parse_94 fl_11_67 okC11 kd_0 (by decide) (by decide) rfl rf_0_7 ?_
        refine w_callV (st := []) (As := []) dX11_parse_97 ml_11_124 okX1_forget kd_50 (by decide) rfl rfl rfl (Nat.le_of_ble_eq_true rfl) (by decide) (Nat.le_of_ble_eq_true rfl) (wc_v H (fun I7 H => ?_))
        refine w_aload_n dX11_parse_100 rfl rfl ?_
        refine w_getR dX11_parse_101 fl_11_28 okC11 kd_0 (by decide) (by decide) rfl rf_0_2 ?_
        refine w_getI dX11_parse_104 fl_11_127 okC6 kd_24 (by decide) (by decide) rfl ?_
        exact w_iret dX11_parse_107 rfl ⟨_, rfl, H⟩
      · replace H := H.2 h
        refine w_bipush (v := (-2)) dX11_parse_43 (by decide) ?_
        refine w_aload_n dX11_parse_45 rfl rfl ?_
        refine w_getR dX11_parse_46 fl_11_21 okC11 kd_0 (by decide) (by decide) rfl rf_0_1 ?_
        refine w_getI dX11_parse_49 fl_11_106 okC5 kd_3 (by decide) (by decide) rfl ?_
        refine w_isub dX11_parse_52 ?_
        exact w_iret dX11_parse_53 rfl ⟨_, rfl, H⟩
    · replace H := H.2 h
      refine w_iconst (v := (-1)) dX11_parse_15 (by decide) ?_
      exact w_iret dX11_parse_16 rfl ⟨_, rfl, H⟩
theorem dX11_nodeCount_0 : decode cX11_nodeCount 0 = .ok (.aload_n 0, 1) := by decide +kernel
theorem dX11_nodeCount_1 : decode cX11_nodeCount 1 = .ok (.getfield 28, 3) := by decide +kernel
theorem dX11_nodeCount_4 : decode cX11_nodeCount 4 = .ok (.getfield 130, 3) := by decide +kernel
theorem dX11_nodeCount_7 : decode cX11_nodeCount 7 = .ok (.ireturn, 1) := by decide +kernel
set_option maxRecDepth 20000 in
theorem rX11_nodeCount {I : MI} {Q : Int32 → MI → Prop} (H : (Q (I 24 0) I)) : Wi mX11_nodeCount [.ref 0] I Q := by
  show WP mX11_nodeCount 286 Rf0 0 [some (.ref 0)] [] I (qi Q)
  refine w_aload_n dX11_nodeCount_0 rfl rfl ?_
  refine w_getR dX11_nodeCount_1 fl_11_28 okC11 kd_0 (by decide) (by decide) rfl rf_0_2 ?_
  refine w_getI dX11_nodeCount_4 fl_11_130 okC6 kd_24 (by decide) (by decide) rfl ?_
  exact w_iret dX11_nodeCount_7 rfl ⟨_, rfl, H⟩
theorem dX11_streetCount_0 : decode cX11_streetCount 0 = .ok (.aload_n 0, 1) := by decide +kernel
theorem dX11_streetCount_1 : decode cX11_streetCount 1 = .ok (.getfield 28, 3) := by decide +kernel
theorem dX11_streetCount_4 : decode cX11_streetCount 4 = .ok (.getfield 133, 3) := by decide +kernel
theorem dX11_streetCount_7 : decode cX11_streetCount 7 = .ok (.ireturn, 1) := by decide +kernel
set_option maxRecDepth 20000 in
theorem rX11_streetCount {I : MI} {Q : Int32 → MI → Prop} (H : (Q (I 24 1) I)) : Wi mX11_streetCount [.ref 0] I Q := by
  show WP mX11_streetCount 286 Rf0 0 [some (.ref 0)] [] I (qi Q)
  refine w_aload_n dX11_streetCount_0 rfl rfl ?_
  refine w_getR dX11_streetCount_1 fl_11_28 okC11 kd_0 (by decide) (by decide) rfl rf_0_2 ?_
  refine w_getI dX11_streetCount_4 fl_11_133 okC6 kd_24 (by decide) (by decide) rfl ?_
  exact w_iret dX11_streetCount_7 rfl ⟨_, rfl, H⟩
theorem dX11_houseCount_0 : decode cX11_houseCount 0 = .ok (.aload_n 0, 1) := by decide +kernel
theorem dX11_houseCount_1 : decode cX11_houseCount 1 = .ok (.getfield 28, 3) := by decide +kernel
theorem dX11_houseCount_4 : decode cX11_houseCount 4 = .ok (.getfield 127, 3) := by decide +kernel
theorem dX11_houseCount_7 : decode cX11_houseCount 7 = .ok (.ireturn, 1) := by decide +kernel
set_option maxRecDepth 20000 in
theorem rX11_houseCount {I : MI} {Q : Int32 → MI → Prop} (H : (Q (I 24 2) I)) : Wi mX11_houseCount [.ref 0] I Q := by
  show WP mX11_houseCount 286 Rf0 0 [some (.ref 0)] [] I (qi Q)
  refine w_aload_n dX11_houseCount_0 rfl rfl ?_
  refine w_getR dX11_houseCount_1 fl_11_28 okC11 kd_0 (by decide) (by decide) rfl rf_0_2 ?_
  refine w_getI dX11_houseCount_4 fl_11_127 okC6 kd_24 (by decide) (by decide) rfl ?_
  exact w_iret dX11_houseCount_7 rfl ⟨_, rfl, H⟩
theorem dX11_capacity_0 : decode cX11_capacity 0 = .ok (.aload_n 0, 1) := by decide +kernel
theorem dX11_capacity_1 : decode cX11_capacity 1 = .ok (.getfield 28, 3) := by decide +kernel
theorem dX11_capacity_4 : decode cX11_capacity 4 = .ok (.getfield 136, 3) := by decide +kernel
theorem dX11_capacity_7 : decode cX11_capacity 7 = .ok (.ireturn, 1) := by decide +kernel
set_option maxRecDepth 20000 in
theorem rX11_capacity {I : MI} {Q : Int32 → MI → Prop} (H : (Q (I 24 3) I)) : Wi mX11_capacity [.ref 0] I Q := by
  show WP mX11_capacity 286 Rf0 0 [some (.ref 0)] [] I (qi Q)
  refine w_aload_n dX11_capacity_0 rfl rfl ?_
  refine w_getR dX11_capacity_1 fl_11_28 okC11 kd_0 (by decide) (by decide) rfl rf_0_2 ?_
  refine w_getI dX11_capacity_4 fl_11_136 okC6 kd_24 (by decide) (by decide) rfl ?_
  exact w_iret dX11_capacity_7 rfl ⟨_, rfl, H⟩
theorem dX11_day_0 : decode cX11_day 0 = .ok (.aload_n 0, 1) := by decide +kernel
theorem dX11_day_1 : decode cX11_day 1 = .ok (.getfield 35, 3) := by decide +kernel
theorem dX11_day_4 : decode cX11_day 4 = .ok (.getfield 139, 3) := by decide +kernel
theorem dX11_day_7 : decode cX11_day 7 = .ok (.ireturn, 1) := by decide +kernel
set_option maxRecDepth 20000 in
theorem rX11_day {I : MI} {Q : Int32 → MI → Prop} (H : (Q (I 30 0) I)) : Wi mX11_day [.ref 0] I Q := by
  show WP mX11_day 286 Rf0 0 [some (.ref 0)] [] I (qi Q)
  refine w_aload_n dX11_day_0 rfl rfl ?_
  refine w_getR dX11_day_1 fl_11_35 okC11 kd_0 (by decide) (by decide) rfl rf_0_3 ?_
  refine w_getI dX11_day_4 fl_11_139 okC8 kd_30 (by decide) (by decide) rfl ?_
  exact w_iret dX11_day_7 rfl ⟨_, rfl, H⟩
theorem dX11_houseNode_0 : decode cX11_houseNode 0 = .ok (.aload_n 0, 1) := by decide +kernel
theorem dX11_houseNode_1 : decode cX11_houseNode 1 = .ok (.iload_n 1, 1) := by decide +kernel
theorem dX11_houseNode_2 : decode cX11_houseNode 2 = .ok (.invokevirtual 142, 3) := by decide +kernel
theorem dX11_houseNode_5 : decode cX11_houseNode 5 = .ok (.ifCond .eq 15, 3) := by decide +kernel
theorem dX11_houseNode_8 : decode cX11_houseNode 8 = .ok (.aload_n 0, 1) := by decide +kernel
theorem dX11_houseNode_9 : decode cX11_houseNode 9 = .ok (.getfield 28, 3) := by decide +kernel
theorem dX11_houseNode_12 : decode cX11_houseNode 12 = .ok (.getfield 146, 3) := by decide +kernel
theorem dX11_houseNode_15 : decode cX11_houseNode 15 = .ok (.iload_n 1, 1) := by decide +kernel
theorem dX11_houseNode_16 : decode cX11_houseNode 16 = .ok (.iaload, 1) := by decide +kernel
theorem dX11_houseNode_17 : decode cX11_houseNode 17 = .ok (.goto 4, 3) := by decide +kernel
theorem dX11_houseNode_20 : decode cX11_houseNode 20 = .ok (.iconst (-1), 1) := by decide +kernel
theorem dX11_houseNode_21 : decode cX11_houseNode 21 = .ok (.ireturn, 1) := by decide +kernel
set_option maxRecDepth 20000 in
theorem rX11_houseNode {a1 : Int32} {I : MI} {Q : Int32 → MI → Prop} (H : (Wi mX11_isHouse [.ref 0, .int a1] I (fun r2 I1 => ((r2 = 0 → (Q (-1) I1)) ∧ (¬ r2 = 0 → (vp_in a1 12 ∧ Q (I1 28 a1.toNatClampNeg) I1)))))) : Wi mX11_houseNode [.ref 0, .int a1] I Q := by
  show WP mX11_houseNode 286 Rf0 0 [some (.ref 0), some (.int a1)] [] I (qi Q)
  refine w_aload_n dX11_houseNode_0 rfl rfl ?_
  refine w_iload_n dX11_houseNode_1 rfl rfl ?_
  refine w_callV (st := []) (As := [.int a1]) dX11_houseNode_2 ml_11_142 okX11_isHouse kd_0 (by decide) rfl rfl rfl (Nat.le_of_ble_eq_true rfl) (by decide) (Nat.le_of_ble_eq_true rfl) (wc_i H (fun r2 I1 H => ?_))
  refine w_if_eq (t := 20) dX11_houseNode_5 (by decide) (fun h => ?_) (fun h => ?_)
  · replace H := H.1 h
    refine w_iconst (v := (-1)) dX11_houseNode_20 (by decide) ?_
    exact w_iret dX11_houseNode_21 rfl ⟨_, rfl, H⟩
  · replace H := H.2 h
    refine w_aload_n dX11_houseNode_8 rfl rfl ?_
    refine w_getR dX11_houseNode_9 fl_11_28 okC11 kd_0 (by decide) (by decide) rfl rf_0_2 ?_
    refine w_getR dX11_houseNode_12 fl_11_146 okC6 kd_24 (by decide) (by decide) rfl rf_24_10 ?_
    refine w_iload_n dX11_houseNode_15 rfl rfl ?_
    refine w_iald dX11_houseNode_16 kd_28 (by decide) H.1 ?_
    replace H := H.2
    refine w_goto (t := 21) dX11_houseNode_17 (by decide) ?_
    exact w_iret dX11_houseNode_21 rfl ⟨_, rfl, H⟩
theorem dX11_order_0 : decode cX11_order 0 = .ok (.aload_n 0, 1) := by decide +kernel
theorem dX11_order_1 : decode cX11_order 1 = .ok (.iload_n 1, 1) := by decide +kernel
theorem dX11_order_2 : decode cX11_order 2 = .ok (.invokevirtual 142, 3) := by decide +kernel
theorem dX11_order_5 : decode cX11_order 5 = .ok (.ifCond .eq 27, 3) := by decide +kernel
theorem dX11_order_8 : decode cX11_order 8 = .ok (.iload_n 2, 1) := by decide +kernel
theorem dX11_order_9 : decode cX11_order 9 = .ok (.invokestatic 150, 3) := by decide +kernel
theorem dX11_order_12 : decode cX11_order 12 = .ok (.ifCond .eq 20, 3) := by decide +kernel
theorem dX11_order_15 : decode cX11_order 15 = .ok (.aload_n 0, 1) := by decide +kernel
theorem dX11_order_16 : decode cX11_order 16 = .ok (.getfield 35, 3) := by decide +kernel
theorem dX11_order_19 : decode cX11_order 19 = .ok (.getfield 153, 3) := by decide +kernel
theorem dX11_order_22 : decode cX11_order 22 = .ok (.iload_n 1, 1) := by decide +kernel
theorem dX11_order_23 : decode cX11_order 23 = .ok (.bipush 7, 2) := by decide +kernel
theorem dX11_order_25 : decode cX11_order 25 = .ok (.imul, 1) := by decide +kernel
theorem dX11_order_26 : decode cX11_order 26 = .ok (.iload_n 2, 1) := by decide +kernel
theorem dX11_order_27 : decode cX11_order 27 = .ok (.iadd, 1) := by decide +kernel
theorem dX11_order_28 : decode cX11_order 28 = .ok (.iaload, 1) := by decide +kernel
theorem dX11_order_29 : decode cX11_order 29 = .ok (.goto 4, 3) := by decide +kernel
theorem dX11_order_32 : decode cX11_order 32 = .ok (.iconst (-1), 1) := by decide +kernel
theorem dX11_order_33 : decode cX11_order 33 = .ok (.ireturn, 1) := by decide +kernel
set_option maxRecDepth 20000 in
theorem rX11_order {a1 a2 : Int32} {I : MI} {Q : Int32 → MI → Prop} (H : (Wi mX11_isHouse [.ref 0, .int a1] I (fun r2 I1 => ((r2 = 0 → (Q (-1) I1)) ∧ (¬ r2 = 0 → (Wi mX11_isWeekday [.int a2] I1 (fun r4 I3 => ((r4 = 0 → (Q (-1) I3)) ∧ (¬ r4 = 0 → (vp_in ((a1 * 7) + a2) 84 ∧ Q (I3 31 ((a1 * 7) + a2).toNatClampNeg) I3)))))))))) : Wi mX11_order [.ref 0, .int a1, .int a2] I Q := by
  show WP mX11_order 286 Rf0 0 [some (.ref 0), some (.int a1), some (.int a2)] [] I (qi Q)
  refine w_aload_n dX11_order_0 rfl rfl ?_
  refine w_iload_n dX11_order_1 rfl rfl ?_
  refine w_callV (st := []) (As := [.int a1]) dX11_order_2 ml_11_142 okX11_isHouse kd_0 (by decide) rfl rfl rfl (Nat.le_of_ble_eq_true rfl) (by decide) (Nat.le_of_ble_eq_true rfl) (wc_i H (fun r2 I1 H => ?_))
  refine w_if_eq (t := 32) dX11_order_5 (by decide) (fun h => ?_) (fun h => ?_)
  · replace H := H.1 h
    refine w_iconst (v := (-1)) dX11_order_32 (by decide) ?_
    exact w_iret dX11_order_33 rfl ⟨_, rfl, H⟩
  · replace H := H.2 h
    refine w_iload_n dX11_order_8 rfl rfl ?_
    refine w_callS (st := []) (As := [.int a2]) dX11_order_9 ml_11_150 okX11_isWeekday rfl (Nat.le_of_ble_eq_true rfl) (by decide) (Nat.le_of_ble_eq_true rfl) (wc_i H (fun r4 I3 H => ?_))
    refine w_if_eq (t := 32) dX11_order_12 (by decide) (fun h => ?_) (fun h => ?_)
    · replace H := H.1 h
      refine w_iconst (v := (-1)) dX11_order_32 (by decide) ?_
      exact w_iret dX11_order_33 rfl ⟨_, rfl, H⟩
    · replace H := H.2 h
      refine w_aload_n dX11_order_15 rfl rfl ?_
      refine w_getR dX11_order_16 fl_11_35 okC11 kd_0 (by decide) (by decide) rfl rf_0_3 ?_
      refine w_getR dX11_order_19 fl_11_153 okC8 kd_30 (by decide) (by decide) rfl rf_30_2 ?_
      refine w_iload_n dX11_order_22 rfl rfl ?_
      refine w_bipush (v := 7) dX11_order_23 (by decide) ?_
      refine w_imul dX11_order_25 ?_
      refine w_iload_n dX11_order_26 rfl rfl ?_
      refine w_iadd dX11_order_27 ?_
      refine w_iald dX11_order_28 kd_31 (by decide) H.1 ?_
      replace H := H.2
      refine w_goto (t := 33) dX11_order_29 (by decide) ?_
      exact w_iret dX11_order_33 rfl ⟨_, rfl, H⟩
theorem dX11_isOpen_0 : decode cX11_isOpen 0 = .ok (.aload_n 0, 1) := by decide +kernel
theorem dX11_isOpen_1 : decode cX11_isOpen 1 = .ok (.iload_n 1, 1) := by decide +kernel
theorem dX11_isOpen_2 : decode cX11_isOpen 2 = .ok (.invokevirtual 156, 3) := by decide +kernel
theorem dX11_isOpen_5 : decode cX11_isOpen 5 = .ok (.ifCond .eq 7, 3) := by decide +kernel
theorem dX11_isOpen_8 : decode cX11_isOpen 8 = .ok (.iload_n 2, 1) := by decide +kernel
theorem dX11_isOpen_9 : decode cX11_isOpen 9 = .ok (.ifCond .ge 5, 3) := by decide +kernel
theorem dX11_isOpen_12 : decode cX11_isOpen 12 = .ok (.iconst (-1), 1) := by decide +kernel
theorem dX11_isOpen_13 : decode cX11_isOpen 13 = .ok (.ireturn, 1) := by decide +kernel
theorem dX11_isOpen_14 : decode cX11_isOpen 14 = .ok (.aload_n 0, 1) := by decide +kernel
theorem dX11_isOpen_15 : decode cX11_isOpen 15 = .ok (.getfield 35, 3) := by decide +kernel
theorem dX11_isOpen_18 : decode cX11_isOpen 18 = .ok (.getfield 159, 3) := by decide +kernel
theorem dX11_isOpen_21 : decode cX11_isOpen 21 = .ok (.iload_n 1, 1) := by decide +kernel
theorem dX11_isOpen_22 : decode cX11_isOpen 22 = .ok (.iaload, 1) := by decide +kernel
theorem dX11_isOpen_23 : decode cX11_isOpen 23 = .ok (.istore_n 3, 1) := by decide +kernel
theorem dX11_isOpen_24 : decode cX11_isOpen 24 = .ok (.iload_n 3, 1) := by decide +kernel
theorem dX11_isOpen_25 : decode cX11_isOpen 25 = .ok (.ifCond .eq 21, 3) := by decide +kernel
theorem dX11_isOpen_28 : decode cX11_isOpen 28 = .ok (.iload_n 2, 1) := by decide +kernel
theorem dX11_isOpen_29 : decode cX11_isOpen 29 = .ok (.aload_n 0, 1) := by decide +kernel
theorem dX11_isOpen_30 : decode cX11_isOpen 30 = .ok (.getfield 35, 3) := by decide +kernel
theorem dX11_isOpen_33 : decode cX11_isOpen 33 = .ok (.getfield 162, 3) := by decide +kernel
theorem dX11_isOpen_36 : decode cX11_isOpen 36 = .ok (.iload_n 1, 1) := by decide +kernel
theorem dX11_isOpen_37 : decode cX11_isOpen 37 = .ok (.iaload, 1) := by decide +kernel
theorem dX11_isOpen_38 : decode cX11_isOpen 38 = .ok (.if_icmp .lt 12, 3) := by decide +kernel
theorem dX11_isOpen_41 : decode cX11_isOpen 41 = .ok (.iload_n 2, 1) := by decide +kernel
theorem dX11_isOpen_42 : decode cX11_isOpen 42 = .ok (.iload_n 3, 1) := by decide +kernel
theorem dX11_isOpen_43 : decode cX11_isOpen 43 = .ok (.if_icmp .ge 7, 3) := by decide +kernel
theorem dX11_isOpen_46 : decode cX11_isOpen 46 = .ok (.iconst 1, 1) := by decide +kernel
theorem dX11_isOpen_47 : decode cX11_isOpen 47 = .ok (.goto 4, 3) := by decide +kernel
theorem dX11_isOpen_50 : decode cX11_isOpen 50 = .ok (.iconst 0, 1) := by decide +kernel
theorem dX11_isOpen_51 : decode cX11_isOpen 51 = .ok (.istore 4, 2) := by decide +kernel
theorem dX11_isOpen_53 : decode cX11_isOpen 53 = .ok (.iload 4, 2) := by decide +kernel
theorem dX11_isOpen_55 : decode cX11_isOpen 55 = .ok (.ifCond .eq 7, 3) := by decide +kernel
theorem dX11_isOpen_58 : decode cX11_isOpen 58 = .ok (.iconst 1, 1) := by decide +kernel
theorem dX11_isOpen_59 : decode cX11_isOpen 59 = .ok (.goto 4, 3) := by decide +kernel
theorem dX11_isOpen_62 : decode cX11_isOpen 62 = .ok (.iconst 0, 1) := by decide +kernel
theorem dX11_isOpen_63 : decode cX11_isOpen 63 = .ok (.ireturn, 1) := by decide +kernel
abbrev LX11_isOpen_46 (l1 l2 l3 : Int32) (I : MI) (Q : Int32 → MI → Prop) : Prop := WP mX11_isOpen 286 Rf0 46 [some (.ref 0), some (.int l1), some (.int l2), some (.int l3), none] [] I (qi Q)
abbrev LX11_isOpen_50 (l1 l2 l3 : Int32) (I : MI) (Q : Int32 → MI → Prop) : Prop := WP mX11_isOpen 286 Rf0 50 [some (.ref 0), some (.int l1), some (.int l2), some (.int l3), none] [] I (qi Q)
abbrev LX11_isOpen_51 (l1 l2 l3 t0 : Int32) (I : MI) (Q : Int32 → MI → Prop) : Prop := WP mX11_isOpen 286 Rf0 51 [some (.ref 0), some (.int l1), some (.int l2), some (.int l3), none] [.int t0] I (qi Q)
set_option maxRecDepth 20000 in
theorem rX11_isOpen_46 {l1 l2 l3 : Int32} {I : MI} {Q : Int32 → MI → Prop} (H : (LX11_isOpen_51 l1 l2 l3 1 I Q)) : LX11_isOpen_46 l1 l2 l3 I Q := by
  show WP mX11_isOpen 286 Rf0 46 [some (.ref 0), some (.int l1), some (.int l2), some (.int l3), none] [] I (qi Q)
  refine w_iconst (v := 1) dX11_isOpen_46 (by decide) ?_
  refine w_goto (t := 51) dX11_isOpen_47 (by decide) ?_
  skip
  exact H
set_option maxRecDepth 20000 in
theorem rX11_isOpen_50 {l1 l2 l3 : Int32} {I : MI} {Q : Int32 → MI → Prop} (H : (LX11_isOpen_51 l1 l2 l3 0 I Q)) : LX11_isOpen_50 l1 l2 l3 I Q := by
  show WP mX11_isOpen 286 Rf0 50 [some (.ref 0), some (.int l1), some (.int l2), some (.int l3), none] [] I (qi Q)
  refine w_iconst (v := 0) dX11_isOpen_50 (by decide) ?_
  skip
  exact H
set_option maxRecDepth 20000 in
theorem rX11_isOpen_51 {l1 l2 l3 t0 : Int32} {I : MI} {Q : Int32 → MI → Prop} (H : ((t0 = 0 → (Q 0 I)) ∧ (¬ t0 = 0 → (Q 1 I)))) : LX11_isOpen_51 l1 l2 l3 t0 I Q := by
  show WP mX11_isOpen 286 Rf0 51 [some (.ref 0), some (.int l1), some (.int l2), some (.int l3), none] [.int t0] I (qi Q)
  refine w_istore (ls' := [some (.ref 0), some (.int l1), some (.int l2), some (.int l3), some (.int t0)]) dX11_isOpen_51 (by decide) rfl rfl ?_
  refine w_iload dX11_isOpen_53 rfl ?_
  refine w_if_eq (t := 62) dX11_isOpen_55 (by decide) (fun h => ?_) (fun h => ?_)
  · replace H := H.1 h
    refine w_iconst (v := 0) dX11_isOpen_62 (by decide) ?_
    exact w_iret dX11_isOpen_63 rfl ⟨_, rfl, H⟩
  · replace H := H.2 h
    refine w_iconst (v := 1) dX11_isOpen_58 (by decide) ?_
    refine w_goto (t := 63) dX11_isOpen_59 (by decide) ?_
    exact w_iret dX11_isOpen_63 rfl ⟨_, rfl, H⟩
set_option maxRecDepth 20000 in
theorem rX11_isOpen {a1 a2 : Int32} {I : MI} {Q : Int32 → MI → Prop} (H : (Wi mX11_isStreet [.ref 0, .int a1] I (fun r2 I1 => ((r2 = 0 → (Q (-1) I1)) ∧ (¬ r2 = 0 → ((0 ≤ a2 → (vp_in a1 18 ∧ ((I1 34 a1.toNatClampNeg) = 0 → (LX11_isOpen_46 a1 a2 (I1 34 a1.toNatClampNeg) I1 Q)) ∧ (¬ (I1 34 a1.toNatClampNeg) = 0 → (vp_in a1 18 ∧ (a2 < (I1 33 a1.toNatClampNeg) → (LX11_isOpen_50 a1 a2 (I1 34 a1.toNatClampNeg) I1 Q)) ∧ (¬ a2 < (I1 33 a1.toNatClampNeg) → (((I1 34 a1.toNatClampNeg) ≤ a2 → (LX11_isOpen_50 a1 a2 (I1 34 a1.toNatClampNeg) I1 Q)) ∧ (¬ (I1 34 a1.toNatClampNeg) ≤ a2 → (LX11_isOpen_46 a1 a2 (I1 34 a1.toNatClampNeg) I1 Q)))))))) ∧ (¬ 0 ≤ a2 → (Q (-1) I1)))))))) : Wi mX11_isOpen [.ref 0, .int a1, .int a2] I Q := by
  show WP mX11_isOpen 286 Rf0 0 [some (.ref 0), some (.int a1), some (.int a2), none, none] [] I (qi Q)
  refine w_aload_n dX11_isOpen_0 rfl rfl ?_
  refine w_iload_n dX11_isOpen_1 rfl rfl ?_
  refine w_callV (st := []) (As := [.int a1]) dX11_isOpen_2 ml_11_156 okX11_isStreet kd_0 (by decide) rfl rfl rfl (Nat.le_of_ble_eq_true rfl) (by decide) (Nat.le_of_ble_eq_true rfl) (wc_i H (fun r2 I1 H => ?_))
  refine w_if_eq (t := 12) dX11_isOpen_5 (by decide) (fun h => ?_) (fun h => ?_)
  · replace H := H.1 h
    refine w_iconst (v := (-1)) dX11_isOpen_12 (by decide) ?_
    exact w_iret dX11_isOpen_13 rfl ⟨_, rfl, H⟩
  · replace H := H.2 h
    refine w_iload_n dX11_isOpen_8 rfl rfl ?_
    refine w_if_ge (t := 14) dX11_isOpen_9 (by decide) (fun h => ?_) (fun h => ?_)
    · replace H := H.1 h
      refine w_aload_n dX11_isOpen_14 rfl rfl ?_
      refine w_getR dX11_isOpen_15 fl_11_35 okC11 kd_0 (by decide) (by decide) rfl rf_0_3 ?_
      refine w_getR dX11_isOpen_18 fl_11_159 okC8 kd_30 (by decide) (by decide) rfl rf_30_5 ?_
      refine w_iload_n dX11_isOpen_21 rfl rfl ?_
      refine w_iald dX11_isOpen_22 kd_34 (by decide) H.1 ?_
      replace H := H.2
      refine w_istore_n (ls' := [some (.ref 0), some (.int a1), some (.int a2), some (.int (I1 34 a1.toNatClampNeg)), none]) dX11_isOpen_23 rfl (by decide) rfl rfl ?_
      refine w_iload_n dX11_isOpen_24 rfl rfl ?_
      refine w_if_eq (t := 46) dX11_isOpen_25 (by decide) (fun h => ?_) (fun h => ?_)
      · replace H := H.1 h
        skip
        exact H
      · replace H := H.2 h
        refine w_iload_n dX11_isOpen_28 rfl rfl ?_
        refine w_aload_n dX11_isOpen_29 rfl rfl ?_
        refine w_getR dX11_isOpen_30 fl_11_35 okC11 kd_0 (by decide) (by decide) rfl rf_0_3 ?_
        refine w_getR dX11_isOpen_33 fl_11_162 okC8 kd_30 (by decide) (by decide) rfl rf_30_4 ?_
        refine w_iload_n dX11_isOpen_36 rfl rfl ?_
        refine w_iald dX11_isOpen_37 kd_33 (by decide) H.1 ?_
        replace H := H.2
        refine w_icmp_lt (t := 50) dX11_isOpen_38 (by decide) (fun h => ?_) (fun h => ?_)
        · replace H := H.1 h
          skip
          exact H
        · replace H := H.2 h
          refine w_iload_n dX11_isOpen_41 rfl rfl ?_
          refine w_iload_n dX11_isOpen_42 rfl rfl ?_
          refine w_icmp_ge (t := 50) dX11_isOpen_43 (by decide) (fun h => ?_) (fun h => ?_)
          · replace H := H.1 h
            skip
            exact H
          · replace H := H.2 h
            skip
            exact H
    · replace H := H.2 h
      refine w_iconst (v := (-1)) dX11_isOpen_12 (by decide) ?_
      exact w_iret dX11_isOpen_13 rfl ⟨_, rfl, H⟩
theorem dX11_arrival_0 : decode cX11_arrival 0 = .ok (.aload_n 0, 1) := by decide +kernel
theorem dX11_arrival_1 : decode cX11_arrival 1 = .ok (.iload_n 1, 1) := by decide +kernel
theorem dX11_arrival_2 : decode cX11_arrival 2 = .ok (.invokevirtual 165, 3) := by decide +kernel
theorem dX11_arrival_5 : decode cX11_arrival 5 = .ok (.ifCond .eq 22, 3) := by decide +kernel
theorem dX11_arrival_8 : decode cX11_arrival 8 = .ok (.aload_n 0, 1) := by decide +kernel
theorem dX11_arrival_9 : decode cX11_arrival 9 = .ok (.iload_n 2, 1) := by decide +kernel
theorem dX11_arrival_10 : decode cX11_arrival 10 = .ok (.invokevirtual 165, 3) := by decide +kernel
theorem dX11_arrival_13 : decode cX11_arrival 13 = .ok (.ifCond .eq 14, 3) := by decide +kernel
theorem dX11_arrival_16 : decode cX11_arrival 16 = .ok (.iload_n 3, 1) := by decide +kernel
theorem dX11_arrival_17 : decode cX11_arrival 17 = .ok (.ifCond .lt 10, 3) := by decide +kernel
theorem dX11_arrival_20 : decode cX11_arrival 20 = .ok (.iload_n 3, 1) := by decide +kernel
theorem dX11_arrival_21 : decode cX11_arrival 21 = .ok (.sipush 9999, 3) := by decide +kernel
theorem dX11_arrival_24 : decode cX11_arrival 24 = .ok (.if_icmp .le 5, 3) := by decide +kernel
theorem dX11_arrival_27 : decode cX11_arrival 27 = .ok (.iconst (-1), 1) := by decide +kernel
theorem dX11_arrival_28 : decode cX11_arrival 28 = .ok (.ireturn, 1) := by decide +kernel
theorem dX11_arrival_29 : decode cX11_arrival 29 = .ok (.aload_n 0, 1) := by decide +kernel
theorem dX11_arrival_30 : decode cX11_arrival 30 = .ok (.getfield 51, 3) := by decide +kernel
theorem dX11_arrival_33 : decode cX11_arrival 33 = .ok (.iload_n 1, 1) := by decide +kernel
theorem dX11_arrival_34 : decode cX11_arrival 34 = .ok (.iload_n 3, 1) := by decide +kernel
theorem dX11_arrival_35 : decode cX11_arrival 35 = .ok (.invokevirtual 168, 3) := by decide +kernel
theorem dX11_arrival_38 : decode cX11_arrival 38 = .ok (.iload_n 2, 1) := by decide +kernel
theorem dX11_arrival_39 : decode cX11_arrival 39 = .ok (.iaload, 1) := by decide +kernel
theorem dX11_arrival_40 : decode cX11_arrival 40 = .ok (.istore 4, 2) := by decide +kernel
theorem dX11_arrival_42 : decode cX11_arrival 42 = .ok (.iload 4, 2) := by decide +kernel
theorem dX11_arrival_44 : decode cX11_arrival 44 = .ok (.ldc 172, 2) := by decide +kernel
theorem dX11_arrival_46 : decode cX11_arrival 46 = .ok (.if_icmp .ne 8, 3) := by decide +kernel
theorem dX11_arrival_49 : decode cX11_arrival 49 = .ok (.bipush (-2), 2) := by decide +kernel
theorem dX11_arrival_51 : decode cX11_arrival 51 = .ok (.goto 5, 3) := by decide +kernel
theorem dX11_arrival_54 : decode cX11_arrival 54 = .ok (.iload 4, 2) := by decide +kernel
theorem dX11_arrival_56 : decode cX11_arrival 56 = .ok (.ireturn, 1) := by decide +kernel
set_option maxRecDepth 20000 in
theorem rX11_arrival {a1 a2 a3 : Int32} {I : MI} {Q : Int32 → MI → Prop} (H : (Wi mX11_isNode [.ref 0, .int a1] I (fun r2 I1 => ((r2 = 0 → (Q (-1) I1)) ∧ (¬ r2 = 0 → (Wi mX11_isNode [.ref 0, .int a2] I1 (fun r4 I3 => ((r4 = 0 → (Q (-1) I3)) ∧ (¬ r4 = 0 → ((a3 < 0 → (Q (-1) I3)) ∧ (¬ a3 < 0 → ((a3 ≤ 9999 → (Wr mX4_arrivalsFrom [.ref 45, .int a1, .int a3] I3 (fun r6 I5 => r6 = 46 ∧ (vp_in a2 10 ∧ (¬ (I5 46 a2.toNatClampNeg) = 2147483647 → (Q (I5 46 a2.toNatClampNeg) I5)) ∧ ((I5 46 a2.toNatClampNeg) = 2147483647 → (Q (-2) I5)))))) ∧ (¬ a3 ≤ 9999 → (Q (-1) I3)))))))))))))) : Wi mX11_arrival [.ref 0, .int a1, .int a2, .int a3] I Q := by
  show WP mX11_arrival 286 Rf0 0 [some (.ref 0), some (.int a1), some (.int a2), some (.int a3), none] [] I (qi Q)
  refine w_aload_n dX11_arrival_0 rfl rfl ?_
  refine w_iload_n dX11_arrival_1 rfl rfl ?_
  refine w_callV (st := []) (As := [.int a1]) dX11_arrival_2 ml_11_165 okX11_isNode kd_0 (by decide) rfl rfl rfl (Nat.le_of_ble_eq_true rfl) (by decide) (Nat.le_of_ble_eq_true rfl) (wc_i H (fun r2 I1 H => ?_))
  refine w_if_eq (t := 27) dX11_arrival_5 (by decide) (fun h => ?_) (fun h => ?_)
  · replace H := H.1 h
    refine w_iconst (v := (-1)) dX11_arrival_27 (by decide) ?_
    exact w_iret dX11_arrival_28 rfl ⟨_, rfl, H⟩
  · replace H := H.2 h
    refine w_aload_n dX11_arrival_8 rfl rfl ?_
    refine w_iload_n dX11_arrival_9 rfl rfl ?_
    refine w_callV (st := []) (As := [.int a2]) dX11_arrival_10 ml_11_165 okX11_isNode kd_0 (by decide) rfl rfl rfl (Nat.le_of_ble_eq_true rfl) (by decide) (Nat.le_of_ble_eq_true rfl) (wc_i H (fun r4 I3 H => ?_))
    refine w_if_eq (t := 27) dX11_arrival_13 (by decide) (fun h => ?_) (fun h => ?_)
    · replace H := H.1 h
      refine w_iconst (v := (-1)) dX11_arrival_27 (by decide) ?_
      exact w_iret dX11_arrival_28 rfl ⟨_, rfl, H⟩
    · replace H := H.2 h
      refine w_iload_n dX11_arrival_16 rfl rfl ?_
      refine w_if_lt (t := 27) dX11_arrival_17 (by decide) (fun h => ?_) (fun h => ?_)
      · replace H := H.1 h
        refine w_iconst (v := (-1)) dX11_arrival_27 (by decide) ?_
        exact w_iret dX11_arrival_28 rfl ⟨_, rfl, H⟩
      · replace H := H.2 h
        refine w_iload_n dX11_arrival_20 rfl rfl ?_
        refine w_sipush (v := 9999) dX11_arrival_21 (by decide) ?_
        refine w_icmp_le (t := 29) dX11_arrival_24 (by decide) (fun h => ?_) (fun h => ?_)
        · replace H := H.1 h
          refine w_aload_n dX11_arrival_29 rfl rfl ?_
          refine w_getR dX11_arrival_30 fl_11_51 okC11 kd_0 (by decide) (by decide) rfl rf_0_5 ?_
          refine w_iload_n dX11_arrival_33 rfl rfl ?_
          refine w_iload_n dX11_arrival_34 rfl rfl ?_
          refine w_callV (st := []) (As := [.int a1, .int a3]) dX11_arrival_35 ml_11_168 okX4_arrivalsFrom kd_45 (by decide) rfl rfl rfl (Nat.le_of_ble_eq_true rfl) (by decide) (Nat.le_of_ble_eq_true rfl) (wc_r H (fun r6 I5 H => ?_))
          obtain ⟨rfl, H⟩ := H
          refine w_iload_n dX11_arrival_38 rfl rfl ?_
          refine w_iald dX11_arrival_39 kd_46 (by decide) H.1 ?_
          replace H := H.2
          refine w_istore (ls' := [some (.ref 0), some (.int a1), some (.int a2), some (.int a3), some (.int (I5 46 a2.toNatClampNeg))]) dX11_arrival_40 (by decide) rfl rfl ?_
          refine w_iload dX11_arrival_42 rfl ?_
          refine w_ldc (v := 2147483647) dX11_arrival_44 kl_11_172 ?_
          refine w_icmp_ne (t := 54) dX11_arrival_46 (by decide) (fun h => ?_) (fun h => ?_)
          · replace H := H.1 h
            refine w_iload dX11_arrival_54 rfl ?_
            exact w_iret dX11_arrival_56 rfl ⟨_, rfl, H⟩
          · replace H := H.2 h
            refine w_bipush (v := (-2)) dX11_arrival_49 (by decide) ?_
            refine w_goto (t := 56) dX11_arrival_51 (by decide) ?_
            exact w_iret dX11_arrival_56 rfl ⟨_, rfl, H⟩
        · replace H := H.2 h
          refine w_iconst (v := (-1)) dX11_arrival_27 (by decide) ?_
          exact w_iret dX11_arrival_28 rfl ⟨_, rfl, H⟩
theorem dX11_demand_0 : decode cX11_demand 0 = .ok (.aload_n 0, 1) := by decide +kernel
theorem dX11_demand_1 : decode cX11_demand 1 = .ok (.iload_n 1, 1) := by decide +kernel
theorem dX11_demand_2 : decode cX11_demand 2 = .ok (.invokevirtual 142, 3) := by decide +kernel
theorem dX11_demand_5 : decode cX11_demand 5 = .ok (.ifCond .eq 14, 3) := by decide +kernel
theorem dX11_demand_8 : decode cX11_demand 8 = .ok (.aload_n 0, 1) := by decide +kernel
theorem dX11_demand_9 : decode cX11_demand 9 = .ok (.getfield 44, 3) := by decide +kernel
theorem dX11_demand_12 : decode cX11_demand 12 = .ok (.iload_n 1, 1) := by decide +kernel
theorem dX11_demand_13 : decode cX11_demand 13 = .ok (.invokevirtual 173, 3) := by decide +kernel
theorem dX11_demand_16 : decode cX11_demand 16 = .ok (.goto 4, 3) := by decide +kernel
theorem dX11_demand_19 : decode cX11_demand 19 = .ok (.iconst (-1), 1) := by decide +kernel
theorem dX11_demand_20 : decode cX11_demand 20 = .ok (.ireturn, 1) := by decide +kernel
set_option maxRecDepth 20000 in
theorem rX11_demand {a1 : Int32} {I : MI} {Q : Int32 → MI → Prop} (H : (Wi mX11_isHouse [.ref 0, .int a1] I (fun r2 I1 => ((r2 = 0 → (Q (-1) I1)) ∧ (¬ r2 = 0 → (Wi mX10_demandOf [.ref 44, .int a1] I1 (fun r4 I3 => (Q r4 I3)))))))) : Wi mX11_demand [.ref 0, .int a1] I Q := by
  show WP mX11_demand 286 Rf0 0 [some (.ref 0), some (.int a1)] [] I (qi Q)
  refine w_aload_n dX11_demand_0 rfl rfl ?_
  refine w_iload_n dX11_demand_1 rfl rfl ?_
  refine w_callV (st := []) (As := [.int a1]) dX11_demand_2 ml_11_142 okX11_isHouse kd_0 (by decide) rfl rfl rfl (Nat.le_of_ble_eq_true rfl) (by decide) (Nat.le_of_ble_eq_true rfl) (wc_i H (fun r2 I1 H => ?_))
  refine w_if_eq (t := 19) dX11_demand_5 (by decide) (fun h => ?_) (fun h => ?_)
  · replace H := H.1 h
    refine w_iconst (v := (-1)) dX11_demand_19 (by decide) ?_
    exact w_iret dX11_demand_20 rfl ⟨_, rfl, H⟩
  · replace H := H.2 h
    refine w_aload_n dX11_demand_8 rfl rfl ?_
    refine w_getR dX11_demand_9 fl_11_44 okC11 kd_0 (by decide) (by decide) rfl rf_0_4 ?_
    refine w_iload_n dX11_demand_12 rfl rfl ?_
    refine w_callV (st := []) (As := [.int a1]) dX11_demand_13 ml_11_173 okX10_demandOf kd_44 (by decide) rfl rfl rfl (Nat.le_of_ble_eq_true rfl) (by decide) (Nat.le_of_ble_eq_true rfl) (wc_i H (fun r4 I3 H => ?_))
    refine w_goto (t := 20) dX11_demand_16 (by decide) ?_
    exact w_iret dX11_demand_20 rfl ⟨_, rfl, H⟩
theorem dX11_totalDemand_0 : decode cX11_totalDemand 0 = .ok (.aload_n 0, 1) := by decide +kernel
theorem dX11_totalDemand_1 : decode cX11_totalDemand 1 = .ok (.getfield 44, 3) := by decide +kernel
theorem dX11_totalDemand_4 : decode cX11_totalDemand 4 = .ok (.invokevirtual 177, 3) := by decide +kernel
theorem dX11_totalDemand_7 : decode cX11_totalDemand 7 = .ok (.ireturn, 1) := by decide +kernel
set_option maxRecDepth 20000 in
theorem rX11_totalDemand {I : MI} {Q : Int32 → MI → Prop} (H : (Wi mX10_sumOfDemands [.ref 44] I (fun r2 I1 => (Q r2 I1)))) : Wi mX11_totalDemand [.ref 0] I Q := by
  show WP mX11_totalDemand 286 Rf0 0 [some (.ref 0)] [] I (qi Q)
  refine w_aload_n dX11_totalDemand_0 rfl rfl ?_
  refine w_getR dX11_totalDemand_1 fl_11_44 okC11 kd_0 (by decide) (by decide) rfl rf_0_4 ?_
  refine w_callV (st := []) (As := []) dX11_totalDemand_4 ml_11_177 okX10_sumOfDemands kd_44 (by decide) rfl rfl rfl (Nat.le_of_ble_eq_true rfl) (by decide) (Nat.le_of_ble_eq_true rfl) (wc_i H (fun r2 I1 H => ?_))
  exact w_iret dX11_totalDemand_7 rfl ⟨_, rfl, H⟩
theorem dX11_stops_0 : decode cX11_stops 0 = .ok (.aload_n 0, 1) := by decide +kernel
theorem dX11_stops_1 : decode cX11_stops 1 = .ok (.getfield 44, 3) := by decide +kernel
theorem dX11_stops_4 : decode cX11_stops 4 = .ok (.invokevirtual 181, 3) := by decide +kernel
theorem dX11_stops_7 : decode cX11_stops 7 = .ok (.ireturn, 1) := by decide +kernel
set_option maxRecDepth 20000 in
theorem rX11_stops {I : MI} {Q : Int32 → MI → Prop} (H : (Wi mX10_stopSet [.ref 44] I (fun r2 I1 => (Q r2 I1)))) : Wi mX11_stops [.ref 0] I Q := by
  show WP mX11_stops 286 Rf0 0 [some (.ref 0)] [] I (qi Q)
  refine w_aload_n dX11_stops_0 rfl rfl ?_
  refine w_getR dX11_stops_1 fl_11_44 okC11 kd_0 (by decide) (by decide) rfl rf_0_4 ?_
  refine w_callV (st := []) (As := []) dX11_stops_4 ml_11_181 okX10_stopSet kd_44 (by decide) rfl rfl rfl (Nat.le_of_ble_eq_true rfl) (by decide) (Nat.le_of_ble_eq_true rfl) (wc_i H (fun r2 I1 H => ?_))
  exact w_iret dX11_stops_7 rfl ⟨_, rfl, H⟩
theorem dX11_habit_0 : decode cX11_habit 0 = .ok (.aload_n 0, 1) := by decide +kernel
theorem dX11_habit_1 : decode cX11_habit 1 = .ok (.iload_n 1, 1) := by decide +kernel
theorem dX11_habit_2 : decode cX11_habit 2 = .ok (.invokevirtual 165, 3) := by decide +kernel
theorem dX11_habit_5 : decode cX11_habit 5 = .ok (.ifCond .eq 28, 3) := by decide +kernel
theorem dX11_habit_8 : decode cX11_habit 8 = .ok (.aload_n 0, 1) := by decide +kernel
theorem dX11_habit_9 : decode cX11_habit 9 = .ok (.iload_n 2, 1) := by decide +kernel
theorem dX11_habit_10 : decode cX11_habit 10 = .ok (.invokevirtual 165, 3) := by decide +kernel
theorem dX11_habit_13 : decode cX11_habit 13 = .ok (.ifCond .eq 20, 3) := by decide +kernel
theorem dX11_habit_16 : decode cX11_habit 16 = .ok (.aload_n 0, 1) := by decide +kernel
theorem dX11_habit_17 : decode cX11_habit 17 = .ok (.getfield 35, 3) := by decide +kernel
theorem dX11_habit_20 : decode cX11_habit 20 = .ok (.getfield 184, 3) := by decide +kernel
theorem dX11_habit_23 : decode cX11_habit 23 = .ok (.iload_n 1, 1) := by decide +kernel
theorem dX11_habit_24 : decode cX11_habit 24 = .ok (.bipush 10, 2) := by decide +kernel
theorem dX11_habit_26 : decode cX11_habit 26 = .ok (.imul, 1) := by decide +kernel
theorem dX11_habit_27 : decode cX11_habit 27 = .ok (.iload_n 2, 1) := by decide +kernel
theorem dX11_habit_28 : decode cX11_habit 28 = .ok (.iadd, 1) := by decide +kernel
theorem dX11_habit_29 : decode cX11_habit 29 = .ok (.iaload, 1) := by decide +kernel
theorem dX11_habit_30 : decode cX11_habit 30 = .ok (.goto 4, 3) := by decide +kernel
theorem dX11_habit_33 : decode cX11_habit 33 = .ok (.iconst (-1), 1) := by decide +kernel
theorem dX11_habit_34 : decode cX11_habit 34 = .ok (.ireturn, 1) := by decide +kernel
set_option maxRecDepth 20000 in
theorem rX11_habit {a1 a2 : Int32} {I : MI} {Q : Int32 → MI → Prop} (H : (Wi mX11_isNode [.ref 0, .int a1] I (fun r2 I1 => ((r2 = 0 → (Q (-1) I1)) ∧ (¬ r2 = 0 → (Wi mX11_isNode [.ref 0, .int a2] I1 (fun r4 I3 => ((r4 = 0 → (Q (-1) I3)) ∧ (¬ r4 = 0 → (vp_in ((a1 * 10) + a2) 100 ∧ Q (I3 39 ((a1 * 10) + a2).toNatClampNeg) I3)))))))))) : Wi mX11_habit [.ref 0, .int a1, .int a2] I Q := by
  show WP mX11_habit 286 Rf0 0 [some (.ref 0), some (.int a1), some (.int a2)] [] I (qi Q)
  refine w_aload_n dX11_habit_0 rfl rfl ?_
  refine w_iload_n dX11_habit_1 rfl rfl ?_
  refine w_callV (st := []) (As := [.int a1]) dX11_habit_2 ml_11_165 okX11_isNode kd_0 (by decide) rfl rfl rfl (Nat.le_of_ble_eq_true rfl) (by decide) (Nat.le_of_ble_eq_true rfl) (wc_i H (fun r2 I1 H => ?_))
  refine w_if_eq (t := 33) dX11_habit_5 (by decide) (fun h => ?_) (fun h => ?_)
  · replace H := H.1 h
    refine w_iconst (v := (-1)) dX11_habit_33 (by decide) ?_
    exact w_iret dX11_habit_34 rfl ⟨_, rfl, H⟩
  · replace H := H.2 h
    refine w_aload_n dX11_habit_8 rfl rfl ?_
    refine w_iload_n dX11_habit_9 rfl rfl ?_
    refine w_callV (st := []) (As := [.int a2]) dX11_habit_10 ml_11_165 okX11_isNode kd_0 (by decide) rfl rfl rfl (Nat.le_of_ble_eq_true rfl) (by decide) (Nat.le_of_ble_eq_true rfl) (wc_i H (fun r4 I3 H => ?_))
    refine w_if_eq (t := 33) dX11_habit_13 (by decide) (fun h => ?_) (fun h => ?_)
    · replace H := H.1 h
      refine w_iconst (v := (-1)) dX11_habit_33 (by decide) ?_
      exact w_iret dX11_habit_34 rfl ⟨_, rfl, H⟩
    · replace H := H.2 h
      refine w_aload_n dX11_habit_16 rfl rfl ?_
      refine w_getR dX11_habit_17 fl_11_35 okC11 kd_0 (by decide) (by decide) rfl rf_0_3 ?_
      refine w_getR dX11_habit_20 fl_11_184 okC8 kd_30 (by decide) (by decide) rfl rf_30_10 ?_
      refine w_iload_n dX11_habit_23 rfl rfl ?_
      refine w_bipush (v := 10) dX11_habit_24 (by decide) ?_
      refine w_imul dX11_habit_26 ?_
      refine w_iload_n dX11_habit_27 rfl rfl ?_
      refine w_iadd dX11_habit_28 ?_
      refine w_iald dX11_habit_29 kd_39 (by decide) H.1 ?_
      replace H := H.2
      refine w_goto (t := 34) dX11_habit_30 (by decide) ?_
      exact w_iret dX11_habit_34 rfl ⟨_, rfl, H⟩
theorem dX11_horseStop_0 : decode cX11_horseStop 0 = .ok (.iload_n 1, 1) := by decide +kernel
theorem dX11_horseStop_1 : decode cX11_horseStop 1 = .ok (.ifCond .ge 5, 3) := by decide +kernel
theorem dX11_horseStop_4 : decode cX11_horseStop 4 = .ok (.iconst (-1), 1) := by decide +kernel
theorem dX11_horseStop_5 : decode cX11_horseStop 5 = .ok (.ireturn, 1) := by decide +kernel
theorem dX11_horseStop_6 : decode cX11_horseStop 6 = .ok (.aload_n 0, 1) := by decide +kernel
theorem dX11_horseStop_7 : decode cX11_horseStop 7 = .ok (.invokevirtual 187, 3) := by decide +kernel
theorem dX11_horseStop_10 : decode cX11_horseStop 10 = .ok (.aload_n 0, 1) := by decide +kernel
theorem dX11_horseStop_11 : decode cX11_horseStop 11 = .ok (.getfield 58, 3) := by decide +kernel
theorem dX11_horseStop_14 : decode cX11_horseStop 14 = .ok (.iload_n 1, 1) := by decide +kernel
theorem dX11_horseStop_15 : decode cX11_horseStop 15 = .ok (.invokevirtual 190, 3) := by decide +kernel
theorem dX11_horseStop_18 : decode cX11_horseStop 18 = .ok (.ireturn, 1) := by decide +kernel
set_option maxRecDepth 20000 in
theorem rX11_horseStop {a1 : Int32} {I : MI} {Q : Int32 → MI → Prop} (H : ((0 ≤ a1 → (Wv mX11_chooseByHabit [.ref 0] I (fun I1 => (Wi mX7_stopAt [.ref 48, .int a1] I1 (fun r3 I2 => (Q r3 I2)))))) ∧ (¬ 0 ≤ a1 → (Q (-1) I)))) : Wi mX11_horseStop [.ref 0, .int a1] I Q := by
  show WP mX11_horseStop 286 Rf0 0 [some (.ref 0), some (.int a1)] [] I (qi Q)
  refine w_iload_n dX11_horseStop_0 rfl rfl ?_
  refine w_if_ge (t := 6) dX11_horseStop_1 (by decide) (fun h => ?_) (fun h => ?_)
  · replace H := H.1 h
    refine w_aload_n dX11_horseStop_6 rfl rfl ?_
    refine w_callV (st := []) (As := []) dX11_horseStop_7 ml_11_187 okX11_chooseByHabit kd_0 (by decide) rfl rfl rfl (Nat.le_of_ble_eq_true rfl) (by decide) (Nat.le_of_ble_eq_true rfl) (wc_v H (fun I1 H => ?_))
    refine w_aload_n dX11_horseStop_10 rfl rfl ?_
    refine w_getR dX11_horseStop_11 fl_11_58 okC11 kd_0 (by decide) (by decide) rfl rf_0_6 ?_
    refine w_iload_n dX11_horseStop_14 rfl rfl ?_
    refine w_callV (st := []) (As := [.int a1]) dX11_horseStop_15 ml_11_190 okX7_stopAt kd_48 (by decide) rfl rfl rfl (Nat.le_of_ble_eq_true rfl) (by decide) (Nat.le_of_ble_eq_true rfl) (wc_i H (fun r3 I2 H => ?_))
    exact w_iret dX11_horseStop_18 rfl ⟨_, rfl, H⟩
  · replace H := H.2 h
    refine w_iconst (v := (-1)) dX11_horseStop_4 (by decide) ?_
    exact w_iret dX11_horseStop_5 rfl ⟨_, rfl, H⟩
theorem dX11_fastestFinish_0 : decode cX11_fastestFinish 0 = .ok (.aload_n 0, 1) := by decide +kernel
theorem dX11_fastestFinish_1 : decode cX11_fastestFinish 1 = .ok (.getfield 67, 3) := by decide +kernel
theorem dX11_fastestFinish_4 : decode cX11_fastestFinish 4 = .ok (.invokevirtual 193, 3) := by decide +kernel
theorem dX11_fastestFinish_7 : decode cX11_fastestFinish 7 = .ok (.aload_n 0, 1) := by decide +kernel
theorem dX11_fastestFinish_8 : decode cX11_fastestFinish 8 = .ok (.getfield 67, 3) := by decide +kernel
theorem dX11_fastestFinish_11 : decode cX11_fastestFinish 11 = .ok (.getfield 196, 3) := by decide +kernel
theorem dX11_fastestFinish_14 : decode cX11_fastestFinish 14 = .ok (.ldc 172, 2) := by decide +kernel
theorem dX11_fastestFinish_16 : decode cX11_fastestFinish 16 = .ok (.if_icmp .ne 8, 3) := by decide +kernel
theorem dX11_fastestFinish_19 : decode cX11_fastestFinish 19 = .ok (.bipush (-2), 2) := by decide +kernel
theorem dX11_fastestFinish_21 : decode cX11_fastestFinish 21 = .ok (.goto 10, 3) := by decide +kernel
theorem dX11_fastestFinish_24 : decode cX11_fastestFinish 24 = .ok (.aload_n 0, 1) := by decide +kernel
theorem dX11_fastestFinish_25 : decode cX11_fastestFinish 25 = .ok (.getfield 67, 3) := by decide +kernel
theorem dX11_fastestFinish_28 : decode cX11_fastestFinish 28 = .ok (.getfield 196, 3) := by decide +kernel
theorem dX11_fastestFinish_31 : decode cX11_fastestFinish 31 = .ok (.ireturn, 1) := by decide +kernel
set_option maxRecDepth 20000 in
theorem rX11_fastestFinish {I : MI} {Q : Int32 → MI → Prop} (H : (Wv mX1_find [.ref 50] I (fun I1 => ((¬ (I1 50 8) = 2147483647 → (Q (I1 50 8) I1)) ∧ ((I1 50 8) = 2147483647 → (Q (-2) I1)))))) : Wi mX11_fastestFinish [.ref 0] I Q := by
  show WP mX11_fastestFinish 286 Rf0 0 [some (.ref 0)] [] I (qi Q)
  refine w_aload_n dX11_fastestFinish_0 rfl rfl ?_
  refine w_getR dX11_fastestFinish_1 fl_11_67 okC11 kd_0 (by decide) (by decide) rfl rf_0_7 ?_
  refine w_callV (st := []) (As := []) dX11_fastestFinish_4 ml_11_193 okX1_find kd_50 (by decide) rfl rfl rfl (Nat.le_of_ble_eq_true rfl) (by decide) (Nat.le_of_ble_eq_true rfl) (wc_v H (fun I1 H => ?_))
  refine w_aload_n dX11_fastestFinish_7 rfl rfl ?_
  refine w_getR dX11_fastestFinish_8 fl_11_67 okC11 kd_0 (by decide) (by decide) rfl rf_0_7 ?_
  refine w_getI dX11_fastestFinish_11 fl_11_196 okC1 kd_50 (by decide) (by decide) rfl ?_
  refine w_ldc (v := 2147483647) dX11_fastestFinish_14 kl_11_172 ?_
  refine w_icmp_ne (t := 24) dX11_fastestFinish_16 (by decide) (fun h => ?_) (fun h => ?_)
  · replace H := H.1 h
    refine w_aload_n dX11_fastestFinish_24 rfl rfl ?_
    refine w_getR dX11_fastestFinish_25 fl_11_67 okC11 kd_0 (by decide) (by decide) rfl rf_0_7 ?_
    refine w_getI dX11_fastestFinish_28 fl_11_196 okC1 kd_50 (by decide) (by decide) rfl ?_
    exact w_iret dX11_fastestFinish_31 rfl ⟨_, rfl, H⟩
  · replace H := H.2 h
    refine w_bipush (v := (-2)) dX11_fastestFinish_19 (by decide) ?_
    refine w_goto (t := 31) dX11_fastestFinish_21 (by decide) ?_
    exact w_iret dX11_fastestFinish_31 rfl ⟨_, rfl, H⟩
theorem dX11_fastestStop_0 : decode cX11_fastestStop 0 = .ok (.iload_n 1, 1) := by decide +kernel
theorem dX11_fastestStop_1 : decode cX11_fastestStop 1 = .ok (.ifCond .ge 5, 3) := by decide +kernel
theorem dX11_fastestStop_4 : decode cX11_fastestStop 4 = .ok (.iconst (-1), 1) := by decide +kernel
theorem dX11_fastestStop_5 : decode cX11_fastestStop 5 = .ok (.ireturn, 1) := by decide +kernel
theorem dX11_fastestStop_6 : decode cX11_fastestStop 6 = .ok (.aload_n 0, 1) := by decide +kernel
theorem dX11_fastestStop_7 : decode cX11_fastestStop 7 = .ok (.getfield 67, 3) := by decide +kernel
theorem dX11_fastestStop_10 : decode cX11_fastestStop 10 = .ok (.invokevirtual 193, 3) := by decide +kernel
theorem dX11_fastestStop_13 : decode cX11_fastestStop 13 = .ok (.aload_n 0, 1) := by decide +kernel
theorem dX11_fastestStop_14 : decode cX11_fastestStop 14 = .ok (.getfield 67, 3) := by decide +kernel
theorem dX11_fastestStop_17 : decode cX11_fastestStop 17 = .ok (.getfield 199, 3) := by decide +kernel
theorem dX11_fastestStop_20 : decode cX11_fastestStop 20 = .ok (.iload_n 1, 1) := by decide +kernel
theorem dX11_fastestStop_21 : decode cX11_fastestStop 21 = .ok (.invokevirtual 190, 3) := by decide +kernel
theorem dX11_fastestStop_24 : decode cX11_fastestStop 24 = .ok (.ireturn, 1) := by decide +kernel
set_option maxRecDepth 20000 in
theorem rX11_fastestStop {a1 : Int32} {I : MI} {Q : Int32 → MI → Prop} (H : ((0 ≤ a1 → (Wv mX1_find [.ref 50] I (fun I1 => (Wi mX7_stopAt [.ref 51, .int a1] I1 (fun r3 I2 => (Q r3 I2)))))) ∧ (¬ 0 ≤ a1 → (Q (-1) I)))) : Wi mX11_fastestStop [.ref 0, .int a1] I Q := by
  show WP mX11_fastestStop 286 Rf0 0 [some (.ref 0), some (.int a1)] [] I (qi Q)
  refine w_iload_n dX11_fastestStop_0 rfl rfl ?_
  refine w_if_ge (t := 6) dX11_fastestStop_1 (by decide) (fun h => ?_) (fun h => ?_)
  · replace H := H.1 h
    refine w_aload_n dX11_fastestStop_6 rfl rfl ?_
    refine w_getR dX11_fastestStop_7 fl_11_67 okC11 kd_0 (by decide) (by decide) rfl rf_0_7 ?_
    refine w_callV (st := []) (As := []) dX11_fastestStop_10 ml_11_193 okX1_find kd_50 (by decide) rfl rfl rfl (Nat.le_of_ble_eq_true rfl) (by decide) (Nat.le_of_ble_eq_true rfl) (wc_v H (fun I1 H => ?_))
    refine w_aload_n dX11_fastestStop_13 rfl rfl ?_
    refine w_getR dX11_fastestStop_14 fl_11_67 okC11 kd_0 (by decide) (by decide) rfl rf_0_7 ?_
    refine w_getR dX11_fastestStop_17 fl_11_199 okC1 kd_50 (by decide) (by decide) rfl rf_50_3 ?_
    refine w_iload_n dX11_fastestStop_20 rfl rfl ?_
    refine w_callV (st := []) (As := [.int a1]) dX11_fastestStop_21 ml_11_190 okX7_stopAt kd_51 (by decide) rfl rfl rfl (Nat.le_of_ble_eq_true rfl) (by decide) (Nat.le_of_ble_eq_true rfl) (wc_i H (fun r3 I2 H => ?_))
    exact w_iret dX11_fastestStop_24 rfl ⟨_, rfl, H⟩
  · replace H := H.2 h
    refine w_iconst (v := (-1)) dX11_fastestStop_4 (by decide) ?_
    exact w_iret dX11_fastestStop_5 rfl ⟨_, rfl, H⟩
theorem dX11_previewFinish_0 : decode cX11_previewFinish 0 = .ok (.iload_n 1, 1) := by decide +kernel
theorem dX11_previewFinish_1 : decode cX11_previewFinish 1 = .ok (.invokestatic 200, 3) := by decide +kernel
theorem dX11_previewFinish_4 : decode cX11_previewFinish 4 = .ok (.ifCond .ne 5, 3) := by decide +kernel
theorem dX11_previewFinish_7 : decode cX11_previewFinish 7 = .ok (.iconst (-1), 1) := by decide +kernel
theorem dX11_previewFinish_8 : decode cX11_previewFinish 8 = .ok (.ireturn, 1) := by decide +kernel
theorem dX11_previewFinish_9 : decode cX11_previewFinish 9 = .ok (.aload_n 0, 1) := by decide +kernel
theorem dX11_previewFinish_10 : decode cX11_previewFinish 10 = .ok (.iload_n 1, 1) := by decide +kernel
theorem dX11_previewFinish_11 : decode cX11_previewFinish 11 = .ok (.invokevirtual 203, 3) := by decide +kernel
theorem dX11_previewFinish_14 : decode cX11_previewFinish 14 = .ok (.ifCond .ne 6, 3) := by decide +kernel
theorem dX11_previewFinish_17 : decode cX11_previewFinish 17 = .ok (.bipush (-2), 2) := by decide +kernel
theorem dX11_previewFinish_19 : decode cX11_previewFinish 19 = .ok (.ireturn, 1) := by decide +kernel
theorem dX11_previewFinish_20 : decode cX11_previewFinish 20 = .ok (.aload_n 0, 1) := by decide +kernel
theorem dX11_previewFinish_21 : decode cX11_previewFinish 21 = .ok (.getfield 76, 3) := by decide +kernel
theorem dX11_previewFinish_24 : decode cX11_previewFinish 24 = .ok (.aload_n 0, 1) := by decide +kernel
theorem dX11_previewFinish_25 : decode cX11_previewFinish 25 = .ok (.getfield 58, 3) := by decide +kernel
theorem dX11_previewFinish_28 : decode cX11_previewFinish 28 = .ok (.invokevirtual 206, 3) := by decide +kernel
theorem dX11_previewFinish_31 : decode cX11_previewFinish 31 = .ok (.aload_n 0, 1) := by decide +kernel
theorem dX11_previewFinish_32 : decode cX11_previewFinish 32 = .ok (.getfield 76, 3) := by decide +kernel
theorem dX11_previewFinish_35 : decode cX11_previewFinish 35 = .ok (.getfield 210, 3) := by decide +kernel
theorem dX11_previewFinish_38 : decode cX11_previewFinish 38 = .ok (.getfield 214, 3) := by decide +kernel
theorem dX11_previewFinish_41 : decode cX11_previewFinish 41 = .ok (.ireturn, 1) := by decide +kernel
set_option maxRecDepth 20000 in
theorem rX11_previewFinish {a1 : Int32} {I : MI} {Q : Int32 → MI → Prop} (H : (Wi mX11_isChoice [.int a1] I (fun r2 I1 => ((¬ r2 = 0 → (Wi mX11_chooseRoute [.ref 0, .int a1] I1 (fun r4 I3 => ((¬ r4 = 0 → (Wv mX0_travel [.ref 56, .ref 48] I3 (fun I5 => (Q (I5 57 0) I5)))) ∧ (r4 = 0 → (Q (-2) I3)))))) ∧ (r2 = 0 → (Q (-1) I1)))))) : Wi mX11_previewFinish [.ref 0, .int a1] I Q := by
  show WP mX11_previewFinish 286 Rf0 0 [some (.ref 0), some (.int a1)] [] I (qi Q)
  refine w_iload_n dX11_previewFinish_0 rfl rfl ?_
  refine w_callS (st := []) (As := [.int a1]) dX11_previewFinish_1 ml_11_200 okX11_isChoice rfl (Nat.le_of_ble_eq_true rfl) (by decide) (Nat.le_of_ble_eq_true rfl) (wc_i H (fun r2 I1 H => ?_))
  refine w_if_ne (t := 9) dX11_previewFinish_4 (by decide) (fun h => ?_) (fun h => ?_)
  · replace H := H.1 h
    refine w_aload_n dX11_previewFinish_9 rfl rfl ?_
    refine w_iload_n dX11_previewFinish_10 rfl rfl ?_
    refine w_callV (st := []) (As := [.int a1]) dX11_previewFinish_11 ml_11_203 okX11_chooseRoute kd_0 (by decide) rfl rfl rfl (Nat.le_of_ble_eq_true rfl) (by decide) (Nat.le_of_ble_eq_true rfl) (wc_i H (fun r4 I3 H => ?_))
    refine w_if_ne (t := 20) dX11_previewFinish_14 (by decide) (fun h => ?_) (fun h => ?_)
    · replace H := H.1 h
      refine w_aload_n dX11_previewFinish_20 rfl rfl ?_
      refine w_getR dX11_previewFinish_21 fl_11_76 okC11 kd_0 (by decide) (by decide) rfl rf_0_8 ?_
      refine w_aload_n dX11_previewFinish_24 rfl rfl ?_
      refine w_getR dX11_previewFinish_25 fl_11_58 okC11 kd_0 (by decide) (by decide) rfl rf_0_6 ?_
      refine w_callV (st := []) (As := [.ref 48]) dX11_previewFinish_28 ml_11_206 okX0_travel kd_56 (by decide) rfl rfl rfl (Nat.le_of_ble_eq_true rfl) (by decide) (Nat.le_of_ble_eq_true rfl) (wc_v H (fun I5 H => ?_))
      refine w_aload_n dX11_previewFinish_31 rfl rfl ?_
      refine w_getR dX11_previewFinish_32 fl_11_76 okC11 kd_0 (by decide) (by decide) rfl rf_0_8 ?_
      refine w_getR dX11_previewFinish_35 fl_11_210 okC0 kd_56 (by decide) (by decide) rfl rf_56_4 ?_
      refine w_getI dX11_previewFinish_38 fl_11_214 okC3 kd_57 (by decide) (by decide) rfl ?_
      exact w_iret dX11_previewFinish_41 rfl ⟨_, rfl, H⟩
    · replace H := H.2 h
      refine w_bipush (v := (-2)) dX11_previewFinish_17 (by decide) ?_
      exact w_iret dX11_previewFinish_19 rfl ⟨_, rfl, H⟩
  · replace H := H.2 h
    refine w_iconst (v := (-1)) dX11_previewFinish_7 (by decide) ?_
    exact w_iret dX11_previewFinish_8 rfl ⟨_, rfl, H⟩
theorem dX11_bottlesAt_0 : decode cX11_bottlesAt 0 = .ok (.aload_n 0, 1) := by decide +kernel
theorem dX11_bottlesAt_1 : decode cX11_bottlesAt 1 = .ok (.iload_n 1, 1) := by decide +kernel
theorem dX11_bottlesAt_2 : decode cX11_bottlesAt 2 = .ok (.invokevirtual 142, 3) := by decide +kernel
theorem dX11_bottlesAt_5 : decode cX11_bottlesAt 5 = .ok (.ifCond .eq 15, 3) := by decide +kernel
theorem dX11_bottlesAt_8 : decode cX11_bottlesAt 8 = .ok (.aload_n 0, 1) := by decide +kernel
theorem dX11_bottlesAt_9 : decode cX11_bottlesAt 9 = .ok (.getfield 35, 3) := by decide +kernel
theorem dX11_bottlesAt_12 : decode cX11_bottlesAt 12 = .ok (.getfield 217, 3) := by decide +kernel
theorem dX11_bottlesAt_15 : decode cX11_bottlesAt 15 = .ok (.iload_n 1, 1) := by decide +kernel
theorem dX11_bottlesAt_16 : decode cX11_bottlesAt 16 = .ok (.iaload, 1) := by decide +kernel
theorem dX11_bottlesAt_17 : decode cX11_bottlesAt 17 = .ok (.goto 4, 3) := by decide +kernel
theorem dX11_bottlesAt_20 : decode cX11_bottlesAt 20 = .ok (.iconst (-1), 1) := by decide +kernel
theorem dX11_bottlesAt_21 : decode cX11_bottlesAt 21 = .ok (.ireturn, 1) := by decide +kernel
set_option maxRecDepth 20000 in
theorem rX11_bottlesAt {a1 : Int32} {I : MI} {Q : Int32 → MI → Prop} (H : (Wi mX11_isHouse [.ref 0, .int a1] I (fun r2 I1 => ((r2 = 0 → (Q (-1) I1)) ∧ (¬ r2 = 0 → (vp_in a1 12 ∧ Q (I1 35 a1.toNatClampNeg) I1)))))) : Wi mX11_bottlesAt [.ref 0, .int a1] I Q := by
  show WP mX11_bottlesAt 286 Rf0 0 [some (.ref 0), some (.int a1)] [] I (qi Q)
  refine w_aload_n dX11_bottlesAt_0 rfl rfl ?_
  refine w_iload_n dX11_bottlesAt_1 rfl rfl ?_
  refine w_callV (st := []) (As := [.int a1]) dX11_bottlesAt_2 ml_11_142 okX11_isHouse kd_0 (by decide) rfl rfl rfl (Nat.le_of_ble_eq_true rfl) (by decide) (Nat.le_of_ble_eq_true rfl) (wc_i H (fun r2 I1 H => ?_))
  refine w_if_eq (t := 20) dX11_bottlesAt_5 (by decide) (fun h => ?_) (fun h => ?_)
  · replace H := H.1 h
    refine w_iconst (v := (-1)) dX11_bottlesAt_20 (by decide) ?_
    exact w_iret dX11_bottlesAt_21 rfl ⟨_, rfl, H⟩
  · replace H := H.2 h
    refine w_aload_n dX11_bottlesAt_8 rfl rfl ?_
    refine w_getR dX11_bottlesAt_9 fl_11_35 okC11 kd_0 (by decide) (by decide) rfl rf_0_3 ?_
    refine w_getR dX11_bottlesAt_12 fl_11_217 okC8 kd_30 (by decide) (by decide) rfl rf_30_6 ?_
    refine w_iload_n dX11_bottlesAt_15 rfl rfl ?_
    refine w_iald dX11_bottlesAt_16 kd_35 (by decide) H.1 ?_
    replace H := H.2
    refine w_goto (t := 21) dX11_bottlesAt_17 (by decide) ?_
    exact w_iret dX11_bottlesAt_21 rfl ⟨_, rfl, H⟩
theorem dX11_delivered_0 : decode cX11_delivered 0 = .ok (.aload_n 0, 1) := by decide +kernel
theorem dX11_delivered_1 : decode cX11_delivered 1 = .ok (.iload_n 1, 1) := by decide +kernel
theorem dX11_delivered_2 : decode cX11_delivered 2 = .ok (.invokevirtual 142, 3) := by decide +kernel
theorem dX11_delivered_5 : decode cX11_delivered 5 = .ok (.ifCond .eq 15, 3) := by decide +kernel
theorem dX11_delivered_8 : decode cX11_delivered 8 = .ok (.aload_n 0, 1) := by decide +kernel
theorem dX11_delivered_9 : decode cX11_delivered 9 = .ok (.getfield 35, 3) := by decide +kernel
theorem dX11_delivered_12 : decode cX11_delivered 12 = .ok (.getfield 220, 3) := by decide +kernel
theorem dX11_delivered_15 : decode cX11_delivered 15 = .ok (.iload_n 1, 1) := by decide +kernel
theorem dX11_delivered_16 : decode cX11_delivered 16 = .ok (.iaload, 1) := by decide +kernel
theorem dX11_delivered_17 : decode cX11_delivered 17 = .ok (.goto 4, 3) := by decide +kernel
theorem dX11_delivered_20 : decode cX11_delivered 20 = .ok (.iconst (-1), 1) := by decide +kernel
theorem dX11_delivered_21 : decode cX11_delivered 21 = .ok (.ireturn, 1) := by decide +kernel
set_option maxRecDepth 20000 in
theorem rX11_delivered {a1 : Int32} {I : MI} {Q : Int32 → MI → Prop} (H : (Wi mX11_isHouse [.ref 0, .int a1] I (fun r2 I1 => ((r2 = 0 → (Q (-1) I1)) ∧ (¬ r2 = 0 → (vp_in a1 12 ∧ Q (I1 36 a1.toNatClampNeg) I1)))))) : Wi mX11_delivered [.ref 0, .int a1] I Q := by
  show WP mX11_delivered 286 Rf0 0 [some (.ref 0), some (.int a1)] [] I (qi Q)
  refine w_aload_n dX11_delivered_0 rfl rfl ?_
  refine w_iload_n dX11_delivered_1 rfl rfl ?_
  refine w_callV (st := []) (As := [.int a1]) dX11_delivered_2 ml_11_142 okX11_isHouse kd_0 (by decide) rfl rfl rfl (Nat.le_of_ble_eq_true rfl) (by decide) (Nat.le_of_ble_eq_true rfl) (wc_i H (fun r2 I1 H => ?_))
  refine w_if_eq (t := 20) dX11_delivered_5 (by decide) (fun h => ?_) (fun h => ?_)
  · replace H := H.1 h
    refine w_iconst (v := (-1)) dX11_delivered_20 (by decide) ?_
    exact w_iret dX11_delivered_21 rfl ⟨_, rfl, H⟩
  · replace H := H.2 h
    refine w_aload_n dX11_delivered_8 rfl rfl ?_
    refine w_getR dX11_delivered_9 fl_11_35 okC11 kd_0 (by decide) (by decide) rfl rf_0_3 ?_
    refine w_getR dX11_delivered_12 fl_11_220 okC8 kd_30 (by decide) (by decide) rfl rf_30_7 ?_
    refine w_iload_n dX11_delivered_15 rfl rfl ?_
    refine w_iald dX11_delivered_16 kd_36 (by decide) H.1 ?_
    replace H := H.2
    refine w_goto (t := 21) dX11_delivered_17 (by decide) ?_
    exact w_iret dX11_delivered_21 rfl ⟨_, rfl, H⟩
theorem dX11_returned_0 : decode cX11_returned 0 = .ok (.aload_n 0, 1) := by decide +kernel
theorem dX11_returned_1 : decode cX11_returned 1 = .ok (.iload_n 1, 1) := by decide +kernel
theorem dX11_returned_2 : decode cX11_returned 2 = .ok (.invokevirtual 142, 3) := by decide +kernel
theorem dX11_returned_5 : decode cX11_returned 5 = .ok (.ifCond .eq 15, 3) := by decide +kernel
theorem dX11_returned_8 : decode cX11_returned 8 = .ok (.aload_n 0, 1) := by decide +kernel
theorem dX11_returned_9 : decode cX11_returned 9 = .ok (.getfield 35, 3) := by decide +kernel
theorem dX11_returned_12 : decode cX11_returned 12 = .ok (.getfield 223, 3) := by decide +kernel
theorem dX11_returned_15 : decode cX11_returned 15 = .ok (.iload_n 1, 1) := by decide +kernel
theorem dX11_returned_16 : decode cX11_returned 16 = .ok (.iaload, 1) := by decide +kernel
theorem dX11_returned_17 : decode cX11_returned 17 = .ok (.goto 4, 3) := by decide +kernel
theorem dX11_returned_20 : decode cX11_returned 20 = .ok (.iconst (-1), 1) := by decide +kernel
theorem dX11_returned_21 : decode cX11_returned 21 = .ok (.ireturn, 1) := by decide +kernel
set_option maxRecDepth 20000 in
theorem rX11_returned {a1 : Int32} {I : MI} {Q : Int32 → MI → Prop} (H : (Wi mX11_isHouse [.ref 0, .int a1] I (fun r2 I1 => ((r2 = 0 → (Q (-1) I1)) ∧ (¬ r2 = 0 → (vp_in a1 12 ∧ Q (I1 37 a1.toNatClampNeg) I1)))))) : Wi mX11_returned [.ref 0, .int a1] I Q := by
  show WP mX11_returned 286 Rf0 0 [some (.ref 0), some (.int a1)] [] I (qi Q)
  refine w_aload_n dX11_returned_0 rfl rfl ?_
  refine w_iload_n dX11_returned_1 rfl rfl ?_
  refine w_callV (st := []) (As := [.int a1]) dX11_returned_2 ml_11_142 okX11_isHouse kd_0 (by decide) rfl rfl rfl (Nat.le_of_ble_eq_true rfl) (by decide) (Nat.le_of_ble_eq_true rfl) (wc_i H (fun r2 I1 H => ?_))
  refine w_if_eq (t := 20) dX11_returned_5 (by decide) (fun h => ?_) (fun h => ?_)
  · replace H := H.1 h
    refine w_iconst (v := (-1)) dX11_returned_20 (by decide) ?_
    exact w_iret dX11_returned_21 rfl ⟨_, rfl, H⟩
  · replace H := H.2 h
    refine w_aload_n dX11_returned_8 rfl rfl ?_
    refine w_getR dX11_returned_9 fl_11_35 okC11 kd_0 (by decide) (by decide) rfl rf_0_3 ?_
    refine w_getR dX11_returned_12 fl_11_223 okC8 kd_30 (by decide) (by decide) rfl rf_30_8 ?_
    refine w_iload_n dX11_returned_15 rfl rfl ?_
    refine w_iald dX11_returned_16 kd_37 (by decide) H.1 ?_
    replace H := H.2
    refine w_goto (t := 21) dX11_returned_17 (by decide) ?_
    exact w_iret dX11_returned_21 rfl ⟨_, rfl, H⟩
theorem dX11_broken_0 : decode cX11_broken 0 = .ok (.aload_n 0, 1) := by decide +kernel
theorem dX11_broken_1 : decode cX11_broken 1 = .ok (.iload_n 1, 1) := by decide +kernel
theorem dX11_broken_2 : decode cX11_broken 2 = .ok (.invokevirtual 142, 3) := by decide +kernel
theorem dX11_broken_5 : decode cX11_broken 5 = .ok (.ifCond .eq 15, 3) := by decide +kernel
theorem dX11_broken_8 : decode cX11_broken 8 = .ok (.aload_n 0, 1) := by decide +kernel
theorem dX11_broken_9 : decode cX11_broken 9 = .ok (.getfield 35, 3) := by decide +kernel
theorem dX11_broken_12 : decode cX11_broken 12 = .ok (.getfield 226, 3) := by decide +kernel
theorem dX11_broken_15 : decode cX11_broken 15 = .ok (.iload_n 1, 1) := by decide +kernel
theorem dX11_broken_16 : decode cX11_broken 16 = .ok (.iaload, 1) := by decide +kernel
theorem dX11_broken_17 : decode cX11_broken 17 = .ok (.goto 4, 3) := by decide +kernel
theorem dX11_broken_20 : decode cX11_broken 20 = .ok (.iconst (-1), 1) := by decide +kernel
theorem dX11_broken_21 : decode cX11_broken 21 = .ok (.ireturn, 1) := by decide +kernel
set_option maxRecDepth 20000 in
theorem rX11_broken {a1 : Int32} {I : MI} {Q : Int32 → MI → Prop} (H : (Wi mX11_isHouse [.ref 0, .int a1] I (fun r2 I1 => ((r2 = 0 → (Q (-1) I1)) ∧ (¬ r2 = 0 → (vp_in a1 12 ∧ Q (I1 38 a1.toNatClampNeg) I1)))))) : Wi mX11_broken [.ref 0, .int a1] I Q := by
  show WP mX11_broken 286 Rf0 0 [some (.ref 0), some (.int a1)] [] I (qi Q)
  refine w_aload_n dX11_broken_0 rfl rfl ?_
  refine w_iload_n dX11_broken_1 rfl rfl ?_
  refine w_callV (st := []) (As := [.int a1]) dX11_broken_2 ml_11_142 okX11_isHouse kd_0 (by decide) rfl rfl rfl (Nat.le_of_ble_eq_true rfl) (by decide) (Nat.le_of_ble_eq_true rfl) (wc_i H (fun r2 I1 H => ?_))
  refine w_if_eq (t := 20) dX11_broken_5 (by decide) (fun h => ?_) (fun h => ?_)
  · replace H := H.1 h
    refine w_iconst (v := (-1)) dX11_broken_20 (by decide) ?_
    exact w_iret dX11_broken_21 rfl ⟨_, rfl, H⟩
  · replace H := H.2 h
    refine w_aload_n dX11_broken_8 rfl rfl ?_
    refine w_getR dX11_broken_9 fl_11_35 okC11 kd_0 (by decide) (by decide) rfl rf_0_3 ?_
    refine w_getR dX11_broken_12 fl_11_226 okC8 kd_30 (by decide) (by decide) rfl rf_30_9 ?_
    refine w_iload_n dX11_broken_15 rfl rfl ?_
    refine w_iald dX11_broken_16 kd_38 (by decide) H.1 ?_
    replace H := H.2
    refine w_goto (t := 21) dX11_broken_17 (by decide) ?_
    exact w_iret dX11_broken_21 rfl ⟨_, rfl, H⟩
theorem dX11_bill_0 : decode cX11_bill 0 = .ok (.aload_n 0, 1) := by decide +kernel
theorem dX11_bill_1 : decode cX11_bill 1 = .ok (.iload_n 1, 1) := by decide +kernel
theorem dX11_bill_2 : decode cX11_bill 2 = .ok (.invokevirtual 142, 3) := by decide +kernel
theorem dX11_bill_5 : decode cX11_bill 5 = .ok (.ifCond .ne 5, 3) := by decide +kernel
theorem dX11_bill_8 : decode cX11_bill 8 = .ok (.iconst (-1), 1) := by decide +kernel
theorem dX11_bill_9 : decode cX11_bill 9 = .ok (.ireturn, 1) := by decide +kernel
theorem dX11_bill_10 : decode cX11_bill 10 = .ok (.aload_n 0, 1) := by decide +kernel
theorem dX11_bill_11 : decode cX11_bill 11 = .ok (.getfield 35, 3) := by decide +kernel
theorem dX11_bill_14 : decode cX11_bill 14 = .ok (.getfield 220, 3) := by decide +kernel
theorem dX11_bill_17 : decode cX11_bill 17 = .ok (.iload_n 1, 1) := by decide +kernel
theorem dX11_bill_18 : decode cX11_bill 18 = .ok (.iaload, 1) := by decide +kernel
theorem dX11_bill_19 : decode cX11_bill 19 = .ok (.aload_n 0, 1) := by decide +kernel
theorem dX11_bill_20 : decode cX11_bill 20 = .ok (.getfield 28, 3) := by decide +kernel
theorem dX11_bill_23 : decode cX11_bill 23 = .ok (.getfield 229, 3) := by decide +kernel
theorem dX11_bill_26 : decode cX11_bill 26 = .ok (.imul, 1) := by decide +kernel
theorem dX11_bill_27 : decode cX11_bill 27 = .ok (.aload_n 0, 1) := by decide +kernel
theorem dX11_bill_28 : decode cX11_bill 28 = .ok (.getfield 35, 3) := by decide +kernel
theorem dX11_bill_31 : decode cX11_bill 31 = .ok (.getfield 226, 3) := by decide +kernel
theorem dX11_bill_34 : decode cX11_bill 34 = .ok (.iload_n 1, 1) := by decide +kernel
theorem dX11_bill_35 : decode cX11_bill 35 = .ok (.iaload, 1) := by decide +kernel
theorem dX11_bill_36 : decode cX11_bill 36 = .ok (.aload_n 0, 1) := by decide +kernel
theorem dX11_bill_37 : decode cX11_bill 37 = .ok (.getfield 28, 3) := by decide +kernel
theorem dX11_bill_40 : decode cX11_bill 40 = .ok (.getfield 232, 3) := by decide +kernel
theorem dX11_bill_43 : decode cX11_bill 43 = .ok (.imul, 1) := by decide +kernel
theorem dX11_bill_44 : decode cX11_bill 44 = .ok (.iadd, 1) := by decide +kernel
theorem dX11_bill_45 : decode cX11_bill 45 = .ok (.ireturn, 1) := by decide +kernel
set_option maxRecDepth 20000 in
theorem rX11_bill {a1 : Int32} {I : MI} {Q : Int32 → MI → Prop} (H : (Wi mX11_isHouse [.ref 0, .int a1] I (fun r2 I1 => ((¬ r2 = 0 → (vp_in a1 12 ∧ vp_in a1 12 ∧ Q (((I1 36 a1.toNatClampNeg) * (I1 24 5)) + ((I1 38 a1.toNatClampNeg) * (I1 24 6))) I1)) ∧ (r2 = 0 → (Q (-1) I1)))))) : Wi mX11_bill [.ref 0, .int a1] I Q := by
  show WP mX11_bill 286 Rf0 0 [some (.ref 0), some (.int a1)] [] I (qi Q)
  refine w_aload_n dX11_bill_0 rfl rfl ?_
  refine w_iload_n dX11_bill_1 rfl rfl ?_
  refine w_callV (st := []) (As := [.int a1]) dX11_bill_2 ml_11_142 okX11_isHouse kd_0 (by decide) rfl rfl rfl (Nat.le_of_ble_eq_true rfl) (by decide) (Nat.le_of_ble_eq_true rfl) (wc_i H (fun r2 I1 H => ?_))
  refine w_if_ne (t := 10) dX11_bill_5 (by decide) (fun h => ?_) (fun h => ?_)
  · replace H := H.1 h
    refine w_aload_n dX11_bill_10 rfl rfl ?_
    refine w_getR dX11_bill_11 fl_11_35 okC11 kd_0 (by decide) (by decide) rfl rf_0_3 ?_
    refine w_getR dX11_bill_14 fl_11_220 okC8 kd_30 (by decide) (by decide) rfl rf_30_7 ?_
    refine w_iload_n dX11_bill_17 rfl rfl ?_
    refine w_iald dX11_bill_18 kd_36 (by decide) H.1 ?_
    replace H := H.2
    refine w_aload_n dX11_bill_19 rfl rfl ?_
    refine w_getR dX11_bill_20 fl_11_28 okC11 kd_0 (by decide) (by decide) rfl rf_0_2 ?_
    refine w_getI dX11_bill_23 fl_11_229 okC6 kd_24 (by decide) (by decide) rfl ?_
    refine w_imul dX11_bill_26 ?_
    refine w_aload_n dX11_bill_27 rfl rfl ?_
    refine w_getR dX11_bill_28 fl_11_35 okC11 kd_0 (by decide) (by decide) rfl rf_0_3 ?_
    refine w_getR dX11_bill_31 fl_11_226 okC8 kd_30 (by decide) (by decide) rfl rf_30_9 ?_
    refine w_iload_n dX11_bill_34 rfl rfl ?_
    refine w_iald dX11_bill_35 kd_38 (by decide) H.1 ?_
    replace H := H.2
    refine w_aload_n dX11_bill_36 rfl rfl ?_
    refine w_getR dX11_bill_37 fl_11_28 okC11 kd_0 (by decide) (by decide) rfl rf_0_2 ?_
    refine w_getI dX11_bill_40 fl_11_232 okC6 kd_24 (by decide) (by decide) rfl ?_
    refine w_imul dX11_bill_43 ?_
    refine w_iadd dX11_bill_44 ?_
    exact w_iret dX11_bill_45 rfl ⟨_, rfl, H⟩
  · replace H := H.2 h
    refine w_iconst (v := (-1)) dX11_bill_8 (by decide) ?_
    exact w_iret dX11_bill_9 rfl ⟨_, rfl, H⟩
theorem dX11_bottlesOut_0 : decode cX11_bottlesOut 0 = .ok (.iconst 0, 1) := by decide +kernel
theorem dX11_bottlesOut_1 : decode cX11_bottlesOut 1 = .ok (.istore_n 1, 1) := by decide +kernel
theorem dX11_bottlesOut_2 : decode cX11_bottlesOut 2 = .ok (.iconst 0, 1) := by decide +kernel
theorem dX11_bottlesOut_3 : decode cX11_bottlesOut 3 = .ok (.istore_n 2, 1) := by decide +kernel
theorem dX11_bottlesOut_4 : decode cX11_bottlesOut 4 = .ok (.iload_n 2, 1) := by decide +kernel
theorem dX11_bottlesOut_5 : decode cX11_bottlesOut 5 = .ok (.aload_n 0, 1) := by decide +kernel
theorem dX11_bottlesOut_6 : decode cX11_bottlesOut 6 = .ok (.getfield 28, 3) := by decide +kernel
theorem dX11_bottlesOut_9 : decode cX11_bottlesOut 9 = .ok (.getfield 127, 3) := by decide +kernel
theorem dX11_bottlesOut_12 : decode cX11_bottlesOut 12 = .ok (.if_icmp .ge 21, 3) := by decide +kernel
theorem dX11_bottlesOut_15 : decode cX11_bottlesOut 15 = .ok (.iload_n 1, 1) := by decide +kernel
theorem dX11_bottlesOut_16 : decode cX11_bottlesOut 16 = .ok (.aload_n 0, 1) := by decide +kernel
theorem dX11_bottlesOut_17 : decode cX11_bottlesOut 17 = .ok (.getfield 35, 3) := by decide +kernel
theorem dX11_bottlesOut_20 : decode cX11_bottlesOut 20 = .ok (.getfield 217, 3) := by decide +kernel
theorem dX11_bottlesOut_23 : decode cX11_bottlesOut 23 = .ok (.iload_n 2, 1) := by decide +kernel
theorem dX11_bottlesOut_24 : decode cX11_bottlesOut 24 = .ok (.iaload, 1) := by decide +kernel
theorem dX11_bottlesOut_25 : decode cX11_bottlesOut 25 = .ok (.iadd, 1) := by decide +kernel
theorem dX11_bottlesOut_26 : decode cX11_bottlesOut 26 = .ok (.istore_n 1, 1) := by decide +kernel
theorem dX11_bottlesOut_27 : decode cX11_bottlesOut 27 = .ok (.iinc 2 1, 3) := by decide +kernel
theorem dX11_bottlesOut_30 : decode cX11_bottlesOut 30 = .ok (.goto (-26), 3) := by decide +kernel
theorem dX11_bottlesOut_33 : decode cX11_bottlesOut 33 = .ok (.iload_n 1, 1) := by decide +kernel
theorem dX11_bottlesOut_34 : decode cX11_bottlesOut 34 = .ok (.ireturn, 1) := by decide +kernel
abbrev LX11_bottlesOut_4 (l1 l2 : Int32) (I : MI) (Q : Int32 → MI → Prop) : Prop := WP mX11_bottlesOut 286 Rf0 4 [some (.ref 0), some (.int l1), some (.int l2)] [] I (qi Q)
set_option maxRecDepth 20000 in
theorem rX11_bottlesOut_4 {l1 l2 : Int32} {I : MI} {Q : Int32 → MI → Prop} (H : (((I 24 2) ≤ l2 → (Q l1 I)) ∧ (¬ (I 24 2) ≤ l2 → (vp_in l2 12 ∧ LX11_bottlesOut_4 (l1 + (I 35 l2.toNatClampNeg)) (l2 + 1) I Q)))) : LX11_bottlesOut_4 l1 l2 I Q := by
  show WP mX11_bottlesOut 286 Rf0 4 [some (.ref 0), some (.int l1), some (.int l2)] [] I (qi Q)
  refine w_iload_n dX11_bottlesOut_4 rfl rfl ?_
  refine w_aload_n dX11_bottlesOut_5 rfl rfl ?_
  refine w_getR dX11_bottlesOut_6 fl_11_28 okC11 kd_0 (by decide) (by decide) rfl rf_0_2 ?_
  refine w_getI dX11_bottlesOut_9 fl_11_127 okC6 kd_24 (by decide) (by decide) rfl ?_
  refine w_icmp_ge (t := 33) dX11_bottlesOut_12 (by decide) (fun h => ?_) (fun h => ?_)
  · replace H := H.1 h
    refine w_iload_n dX11_bottlesOut_33 rfl rfl ?_
    exact w_iret dX11_bottlesOut_34 rfl ⟨_, rfl, H⟩
  · replace H := H.2 h
    refine w_iload_n dX11_bottlesOut_15 rfl rfl ?_
    refine w_aload_n dX11_bottlesOut_16 rfl rfl ?_
    refine w_getR dX11_bottlesOut_17 fl_11_35 okC11 kd_0 (by decide) (by decide) rfl rf_0_3 ?_
    refine w_getR dX11_bottlesOut_20 fl_11_217 okC8 kd_30 (by decide) (by decide) rfl rf_30_6 ?_
    refine w_iload_n dX11_bottlesOut_23 rfl rfl ?_
    refine w_iald dX11_bottlesOut_24 kd_35 (by decide) H.1 ?_
    replace H := H.2
    refine w_iadd dX11_bottlesOut_25 ?_
    refine w_istore_n (ls' := [some (.ref 0), some (.int (l1 + (I 35 l2.toNatClampNeg))), some (.int l2)]) dX11_bottlesOut_26 rfl (by decide) rfl rfl ?_
    refine w_iinc (v := l2 + 1) (ls' := [some (.ref 0), some (.int (l1 + (I 35 l2.toNatClampNeg))), some (.int (l2 + 1))]) dX11_bottlesOut_27 rfl rfl (by decide) rfl rfl ?_
    refine w_goto (t := 4) dX11_bottlesOut_30 (by decide) ?_
    skip
    exact H
set_option maxRecDepth 20000 in
theorem rX11_bottlesOut {I : MI} {Q : Int32 → MI → Prop} (H : (LX11_bottlesOut_4 0 0 I Q)) : Wi mX11_bottlesOut [.ref 0] I Q := by
  show WP mX11_bottlesOut 286 Rf0 0 [some (.ref 0), none, none] [] I (qi Q)
  refine w_iconst (v := 0) dX11_bottlesOut_0 (by decide) ?_
  refine w_istore_n (ls' := [some (.ref 0), some (.int 0), none]) dX11_bottlesOut_1 rfl (by decide) rfl rfl ?_
  refine w_iconst (v := 0) dX11_bottlesOut_2 (by decide) ?_
  refine w_istore_n (ls' := [some (.ref 0), some (.int 0), some (.int 0)]) dX11_bottlesOut_3 rfl (by decide) rfl rfl ?_
  skip
  exact H
theorem dX11_finish_0 : decode cX11_finish 0 = .ok (.aload_n 0, 1) := by decide +kernel
theorem dX11_finish_1 : decode cX11_finish 1 = .ok (.getfield 35, 3) := by decide +kernel
theorem dX11_finish_4 : decode cX11_finish 4 = .ok (.getfield 235, 3) := by decide +kernel
theorem dX11_finish_7 : decode cX11_finish 7 = .ok (.getfield 214, 3) := by decide +kernel
theorem dX11_finish_10 : decode cX11_finish 10 = .ok (.ireturn, 1) := by decide +kernel
set_option maxRecDepth 20000 in
theorem rX11_finish {I : MI} {Q : Int32 → MI → Prop} (H : (Q (I 40 0) I)) : Wi mX11_finish [.ref 0] I Q := by
  show WP mX11_finish 286 Rf0 0 [some (.ref 0)] [] I (qi Q)
  refine w_aload_n dX11_finish_0 rfl rfl ?_
  refine w_getR dX11_finish_1 fl_11_35 okC11 kd_0 (by decide) (by decide) rfl rf_0_3 ?_
  refine w_getR dX11_finish_4 fl_11_235 okC8 kd_30 (by decide) (by decide) rfl rf_30_11 ?_
  refine w_getI dX11_finish_7 fl_11_214 okC3 kd_40 (by decide) (by decide) rfl ?_
  exact w_iret dX11_finish_10 rfl ⟨_, rfl, H⟩
theorem dX11_visitCount_0 : decode cX11_visitCount 0 = .ok (.aload_n 0, 1) := by decide +kernel
theorem dX11_visitCount_1 : decode cX11_visitCount 1 = .ok (.getfield 35, 3) := by decide +kernel
theorem dX11_visitCount_4 : decode cX11_visitCount 4 = .ok (.getfield 235, 3) := by decide +kernel
theorem dX11_visitCount_7 : decode cX11_visitCount 7 = .ok (.getfield 236, 3) := by decide +kernel
theorem dX11_visitCount_10 : decode cX11_visitCount 10 = .ok (.ireturn, 1) := by decide +kernel
set_option maxRecDepth 20000 in
theorem rX11_visitCount {I : MI} {Q : Int32 → MI → Prop} (H : (Q (I 40 1) I)) : Wi mX11_visitCount [.ref 0] I Q := by
  show WP mX11_visitCount 286 Rf0 0 [some (.ref 0)] [] I (qi Q)
  refine w_aload_n dX11_visitCount_0 rfl rfl ?_
  refine w_getR dX11_visitCount_1 fl_11_35 okC11 kd_0 (by decide) (by decide) rfl rf_0_3 ?_
  refine w_getR dX11_visitCount_4 fl_11_235 okC8 kd_30 (by decide) (by decide) rfl rf_30_11 ?_
  refine w_getI dX11_visitCount_7 fl_11_236 okC3 kd_40 (by decide) (by decide) rfl ?_
  exact w_iret dX11_visitCount_10 rfl ⟨_, rfl, H⟩
theorem dX11_visitHouse_0 : decode cX11_visitHouse 0 = .ok (.aload_n 0, 1) := by decide +kernel
theorem dX11_visitHouse_1 : decode cX11_visitHouse 1 = .ok (.iload_n 1, 1) := by decide +kernel
theorem dX11_visitHouse_2 : decode cX11_visitHouse 2 = .ok (.invokevirtual 239, 3) := by decide +kernel
theorem dX11_visitHouse_5 : decode cX11_visitHouse 5 = .ok (.ifCond .eq 18, 3) := by decide +kernel
theorem dX11_visitHouse_8 : decode cX11_visitHouse 8 = .ok (.aload_n 0, 1) := by decide +kernel
theorem dX11_visitHouse_9 : decode cX11_visitHouse 9 = .ok (.getfield 35, 3) := by decide +kernel
theorem dX11_visitHouse_12 : decode cX11_visitHouse 12 = .ok (.getfield 235, 3) := by decide +kernel
theorem dX11_visitHouse_15 : decode cX11_visitHouse 15 = .ok (.getfield 242, 3) := by decide +kernel
theorem dX11_visitHouse_18 : decode cX11_visitHouse 18 = .ok (.iload_n 1, 1) := by decide +kernel
theorem dX11_visitHouse_19 : decode cX11_visitHouse 19 = .ok (.iaload, 1) := by decide +kernel
theorem dX11_visitHouse_20 : decode cX11_visitHouse 20 = .ok (.goto 4, 3) := by decide +kernel
theorem dX11_visitHouse_23 : decode cX11_visitHouse 23 = .ok (.iconst (-1), 1) := by decide +kernel
theorem dX11_visitHouse_24 : decode cX11_visitHouse 24 = .ok (.ireturn, 1) := by decide +kernel
set_option maxRecDepth 20000 in
theorem rX11_visitHouse {a1 : Int32} {I : MI} {Q : Int32 → MI → Prop} (H : (Wi mX11_isVisit [.ref 0, .int a1] I (fun r2 I1 => ((r2 = 0 → (Q (-1) I1)) ∧ (¬ r2 = 0 → (vp_in a1 12 ∧ Q (I1 41 a1.toNatClampNeg) I1)))))) : Wi mX11_visitHouse [.ref 0, .int a1] I Q := by
  show WP mX11_visitHouse 286 Rf0 0 [some (.ref 0), some (.int a1)] [] I (qi Q)
  refine w_aload_n dX11_visitHouse_0 rfl rfl ?_
  refine w_iload_n dX11_visitHouse_1 rfl rfl ?_
  refine w_callV (st := []) (As := [.int a1]) dX11_visitHouse_2 ml_11_239 okX11_isVisit kd_0 (by decide) rfl rfl rfl (Nat.le_of_ble_eq_true rfl) (by decide) (Nat.le_of_ble_eq_true rfl) (wc_i H (fun r2 I1 H => ?_))
  refine w_if_eq (t := 23) dX11_visitHouse_5 (by decide) (fun h => ?_) (fun h => ?_)
  · replace H := H.1 h
    refine w_iconst (v := (-1)) dX11_visitHouse_23 (by decide) ?_
    exact w_iret dX11_visitHouse_24 rfl ⟨_, rfl, H⟩
  · replace H := H.2 h
    refine w_aload_n dX11_visitHouse_8 rfl rfl ?_
    refine w_getR dX11_visitHouse_9 fl_11_35 okC11 kd_0 (by decide) (by decide) rfl rf_0_3 ?_
    refine w_getR dX11_visitHouse_12 fl_11_235 okC8 kd_30 (by decide) (by decide) rfl rf_30_11 ?_
    refine w_getR dX11_visitHouse_15 fl_11_242 okC3 kd_40 (by decide) (by decide) rfl rf_40_3 ?_
    refine w_iload_n dX11_visitHouse_18 rfl rfl ?_
    refine w_iald dX11_visitHouse_19 kd_41 (by decide) H.1 ?_
    replace H := H.2
    refine w_goto (t := 24) dX11_visitHouse_20 (by decide) ?_
    exact w_iret dX11_visitHouse_24 rfl ⟨_, rfl, H⟩
theorem dX11_visitMinute_0 : decode cX11_visitMinute 0 = .ok (.aload_n 0, 1) := by decide +kernel
theorem dX11_visitMinute_1 : decode cX11_visitMinute 1 = .ok (.iload_n 1, 1) := by decide +kernel
theorem dX11_visitMinute_2 : decode cX11_visitMinute 2 = .ok (.invokevirtual 239, 3) := by decide +kernel
theorem dX11_visitMinute_5 : decode cX11_visitMinute 5 = .ok (.ifCond .eq 18, 3) := by decide +kernel
theorem dX11_visitMinute_8 : decode cX11_visitMinute 8 = .ok (.aload_n 0, 1) := by decide +kernel
theorem dX11_visitMinute_9 : decode cX11_visitMinute 9 = .ok (.getfield 35, 3) := by decide +kernel
theorem dX11_visitMinute_12 : decode cX11_visitMinute 12 = .ok (.getfield 235, 3) := by decide +kernel
theorem dX11_visitMinute_15 : decode cX11_visitMinute 15 = .ok (.getfield 245, 3) := by decide +kernel
theorem dX11_visitMinute_18 : decode cX11_visitMinute 18 = .ok (.iload_n 1, 1) := by decide +kernel
theorem dX11_visitMinute_19 : decode cX11_visitMinute 19 = .ok (.iaload, 1) := by decide +kernel
theorem dX11_visitMinute_20 : decode cX11_visitMinute 20 = .ok (.goto 4, 3) := by decide +kernel
theorem dX11_visitMinute_23 : decode cX11_visitMinute 23 = .ok (.iconst (-1), 1) := by decide +kernel
theorem dX11_visitMinute_24 : decode cX11_visitMinute 24 = .ok (.ireturn, 1) := by decide +kernel
set_option maxRecDepth 20000 in
theorem rX11_visitMinute {a1 : Int32} {I : MI} {Q : Int32 → MI → Prop} (H : (Wi mX11_isVisit [.ref 0, .int a1] I (fun r2 I1 => ((r2 = 0 → (Q (-1) I1)) ∧ (¬ r2 = 0 → (vp_in a1 12 ∧ Q (I1 42 a1.toNatClampNeg) I1)))))) : Wi mX11_visitMinute [.ref 0, .int a1] I Q := by
  show WP mX11_visitMinute 286 Rf0 0 [some (.ref 0), some (.int a1)] [] I (qi Q)
  refine w_aload_n dX11_visitMinute_0 rfl rfl ?_
  refine w_iload_n dX11_visitMinute_1 rfl rfl ?_
  refine w_callV (st := []) (As := [.int a1]) dX11_visitMinute_2 ml_11_239 okX11_isVisit kd_0 (by decide) rfl rfl rfl (Nat.le_of_ble_eq_true rfl) (by decide) (Nat.le_of_ble_eq_true rfl) (wc_i H (fun r2 I1 H => ?_))
  refine w_if_eq (t := 23) dX11_visitMinute_5 (by decide) (fun h => ?_) (fun h => ?_)
  · replace H := H.1 h
    refine w_iconst (v := (-1)) dX11_visitMinute_23 (by decide) ?_
    exact w_iret dX11_visitMinute_24 rfl ⟨_, rfl, H⟩
  · replace H := H.2 h
    refine w_aload_n dX11_visitMinute_8 rfl rfl ?_
    refine w_getR dX11_visitMinute_9 fl_11_35 okC11 kd_0 (by decide) (by decide) rfl rf_0_3 ?_
    refine w_getR dX11_visitMinute_12 fl_11_235 okC8 kd_30 (by decide) (by decide) rfl rf_30_11 ?_
    refine w_getR dX11_visitMinute_15 fl_11_245 okC3 kd_40 (by decide) (by decide) rfl rf_40_4 ?_
    refine w_iload_n dX11_visitMinute_18 rfl rfl ?_
    refine w_iald dX11_visitMinute_19 kd_42 (by decide) H.1 ?_
    replace H := H.2
    refine w_goto (t := 24) dX11_visitMinute_20 (by decide) ?_
    exact w_iret dX11_visitMinute_24 rfl ⟨_, rfl, H⟩
theorem dX11_visitReturned_0 : decode cX11_visitReturned 0 = .ok (.aload_n 0, 1) := by decide +kernel
theorem dX11_visitReturned_1 : decode cX11_visitReturned 1 = .ok (.iload_n 1, 1) := by decide +kernel
theorem dX11_visitReturned_2 : decode cX11_visitReturned 2 = .ok (.invokevirtual 239, 3) := by decide +kernel
theorem dX11_visitReturned_5 : decode cX11_visitReturned 5 = .ok (.ifCond .eq 18, 3) := by decide +kernel
theorem dX11_visitReturned_8 : decode cX11_visitReturned 8 = .ok (.aload_n 0, 1) := by decide +kernel
theorem dX11_visitReturned_9 : decode cX11_visitReturned 9 = .ok (.getfield 35, 3) := by decide +kernel
theorem dX11_visitReturned_12 : decode cX11_visitReturned 12 = .ok (.getfield 235, 3) := by decide +kernel
theorem dX11_visitReturned_15 : decode cX11_visitReturned 15 = .ok (.getfield 248, 3) := by decide +kernel
theorem dX11_visitReturned_18 : decode cX11_visitReturned 18 = .ok (.iload_n 1, 1) := by decide +kernel
theorem dX11_visitReturned_19 : decode cX11_visitReturned 19 = .ok (.iaload, 1) := by decide +kernel
theorem dX11_visitReturned_20 : decode cX11_visitReturned 20 = .ok (.goto 4, 3) := by decide +kernel
theorem dX11_visitReturned_23 : decode cX11_visitReturned 23 = .ok (.iconst (-1), 1) := by decide +kernel
theorem dX11_visitReturned_24 : decode cX11_visitReturned 24 = .ok (.ireturn, 1) := by decide +kernel
set_option maxRecDepth 20000 in
theorem rX11_visitReturned {a1 : Int32} {I : MI} {Q : Int32 → MI → Prop} (H : (Wi mX11_isVisit [.ref 0, .int a1] I (fun r2 I1 => ((r2 = 0 → (Q (-1) I1)) ∧ (¬ r2 = 0 → (vp_in a1 12 ∧ Q (I1 43 a1.toNatClampNeg) I1)))))) : Wi mX11_visitReturned [.ref 0, .int a1] I Q := by
  show WP mX11_visitReturned 286 Rf0 0 [some (.ref 0), some (.int a1)] [] I (qi Q)
  refine w_aload_n dX11_visitReturned_0 rfl rfl ?_
  refine w_iload_n dX11_visitReturned_1 rfl rfl ?_
  refine w_callV (st := []) (As := [.int a1]) dX11_visitReturned_2 ml_11_239 okX11_isVisit kd_0 (by decide) rfl rfl rfl (Nat.le_of_ble_eq_true rfl) (by decide) (Nat.le_of_ble_eq_true rfl) (wc_i H (fun r2 I1 H => ?_))
  refine w_if_eq (t := 23) dX11_visitReturned_5 (by decide) (fun h => ?_) (fun h => ?_)
  · replace H := H.1 h
    refine w_iconst (v := (-1)) dX11_visitReturned_23 (by decide) ?_
    exact w_iret dX11_visitReturned_24 rfl ⟨_, rfl, H⟩
  · replace H := H.2 h
    refine w_aload_n dX11_visitReturned_8 rfl rfl ?_
    refine w_getR dX11_visitReturned_9 fl_11_35 okC11 kd_0 (by decide) (by decide) rfl rf_0_3 ?_
    refine w_getR dX11_visitReturned_12 fl_11_235 okC8 kd_30 (by decide) (by decide) rfl rf_30_11 ?_
    refine w_getR dX11_visitReturned_15 fl_11_248 okC3 kd_40 (by decide) (by decide) rfl rf_40_5 ?_
    refine w_iload_n dX11_visitReturned_18 rfl rfl ?_
    refine w_iald dX11_visitReturned_19 kd_43 (by decide) H.1 ?_
    replace H := H.2
    refine w_goto (t := 24) dX11_visitReturned_20 (by decide) ?_
    exact w_iret dX11_visitReturned_24 rfl ⟨_, rfl, H⟩
theorem dX11_reloads_0 : decode cX11_reloads 0 = .ok (.aload_n 0, 1) := by decide +kernel
theorem dX11_reloads_1 : decode cX11_reloads 1 = .ok (.getfield 35, 3) := by decide +kernel
theorem dX11_reloads_4 : decode cX11_reloads 4 = .ok (.getfield 235, 3) := by decide +kernel
theorem dX11_reloads_7 : decode cX11_reloads 7 = .ok (.getfield 249, 3) := by decide +kernel
theorem dX11_reloads_10 : decode cX11_reloads 10 = .ok (.ireturn, 1) := by decide +kernel
set_option maxRecDepth 20000 in
theorem rX11_reloads {I : MI} {Q : Int32 → MI → Prop} (H : (Q (I 40 2) I)) : Wi mX11_reloads [.ref 0] I Q := by
  show WP mX11_reloads 286 Rf0 0 [some (.ref 0)] [] I (qi Q)
  refine w_aload_n dX11_reloads_0 rfl rfl ?_
  refine w_getR dX11_reloads_1 fl_11_35 okC11 kd_0 (by decide) (by decide) rfl rf_0_3 ?_
  refine w_getR dX11_reloads_4 fl_11_235 okC8 kd_30 (by decide) (by decide) rfl rf_30_11 ?_
  refine w_getI dX11_reloads_7 fl_11_249 okC3 kd_40 (by decide) (by decide) rfl ?_
  exact w_iret dX11_reloads_10 rfl ⟨_, rfl, H⟩
theorem dX11_carryOut_0 : decode cX11_carryOut 0 = .ok (.iload_n 1, 1) := by decide +kernel
theorem dX11_carryOut_1 : decode cX11_carryOut 1 = .ok (.invokestatic 200, 3) := by decide +kernel
theorem dX11_carryOut_4 : decode cX11_carryOut 4 = .ok (.ifCond .ne 5, 3) := by decide +kernel
theorem dX11_carryOut_7 : decode cX11_carryOut 7 = .ok (.iconst (-1), 1) := by decide +kernel
theorem dX11_carryOut_8 : decode cX11_carryOut 8 = .ok (.ireturn, 1) := by decide +kernel
theorem dX11_carryOut_9 : decode cX11_carryOut 9 = .ok (.aload_n 0, 1) := by decide +kernel
theorem dX11_carryOut_10 : decode cX11_carryOut 10 = .ok (.iload_n 1, 1) := by decide +kernel
theorem dX11_carryOut_11 : decode cX11_carryOut 11 = .ok (.invokevirtual 203, 3) := by decide +kernel
theorem dX11_carryOut_14 : decode cX11_carryOut 14 = .ok (.ifCond .ne 6, 3) := by decide +kernel
theorem dX11_carryOut_17 : decode cX11_carryOut 17 = .ok (.bipush (-2), 2) := by decide +kernel
theorem dX11_carryOut_19 : decode cX11_carryOut 19 = .ok (.ireturn, 1) := by decide +kernel
theorem dX11_carryOut_20 : decode cX11_carryOut 20 = .ok (.aload_n 0, 1) := by decide +kernel
theorem dX11_carryOut_21 : decode cX11_carryOut 21 = .ok (.getfield 76, 3) := by decide +kernel
theorem dX11_carryOut_24 : decode cX11_carryOut 24 = .ok (.aload_n 0, 1) := by decide +kernel
theorem dX11_carryOut_25 : decode cX11_carryOut 25 = .ok (.getfield 58, 3) := by decide +kernel
theorem dX11_carryOut_28 : decode cX11_carryOut 28 = .ok (.invokevirtual 206, 3) := by decide +kernel
theorem dX11_carryOut_31 : decode cX11_carryOut 31 = .ok (.aload_n 0, 1) := by decide +kernel
theorem dX11_carryOut_32 : decode cX11_carryOut 32 = .ok (.invokevirtual 252, 3) := by decide +kernel
theorem dX11_carryOut_35 : decode cX11_carryOut 35 = .ok (.aload_n 0, 1) := by decide +kernel
theorem dX11_carryOut_36 : decode cX11_carryOut 36 = .ok (.aload_n 0, 1) := by decide +kernel
theorem dX11_carryOut_37 : decode cX11_carryOut 37 = .ok (.getfield 76, 3) := by decide +kernel
theorem dX11_carryOut_40 : decode cX11_carryOut 40 = .ok (.getfield 210, 3) := by decide +kernel
theorem dX11_carryOut_43 : decode cX11_carryOut 43 = .ok (.invokevirtual 255, 3) := by decide +kernel
theorem dX11_carryOut_46 : decode cX11_carryOut 46 = .ok (.aload_n 0, 1) := by decide +kernel
theorem dX11_carryOut_47 : decode cX11_carryOut 47 = .ok (.aload_n 0, 1) := by decide +kernel
theorem dX11_carryOut_48 : decode cX11_carryOut 48 = .ok (.getfield 76, 3) := by decide +kernel
theorem dX11_carryOut_51 : decode cX11_carryOut 51 = .ok (.getfield 210, 3) := by decide +kernel
theorem dX11_carryOut_54 : decode cX11_carryOut 54 = .ok (.invokevirtual 259, 3) := by decide +kernel
theorem dX11_carryOut_57 : decode cX11_carryOut 57 = .ok (.aload_n 0, 1) := by decide +kernel
theorem dX11_carryOut_58 : decode cX11_carryOut 58 = .ok (.getfield 35, 3) := by decide +kernel
theorem dX11_carryOut_61 : decode cX11_carryOut 61 = .ok (.getfield 235, 3) := by decide +kernel
theorem dX11_carryOut_64 : decode cX11_carryOut 64 = .ok (.aload_n 0, 1) := by decide +kernel
theorem dX11_carryOut_65 : decode cX11_carryOut 65 = .ok (.getfield 76, 3) := by decide +kernel
theorem dX11_carryOut_68 : decode cX11_carryOut 68 = .ok (.getfield 210, 3) := by decide +kernel
theorem dX11_carryOut_71 : decode cX11_carryOut 71 = .ok (.invokevirtual 262, 3) := by decide +kernel
theorem dX11_carryOut_74 : decode cX11_carryOut 74 = .ok (.aload_n 0, 1) := by decide +kernel
theorem dX11_carryOut_75 : decode cX11_carryOut 75 = .ok (.getfield 35, 3) := by decide +kernel
theorem dX11_carryOut_78 : decode cX11_carryOut 78 = .ok (.dup, 1) := by decide +kernel
theorem dX11_carryOut_79 : decode cX11_carryOut 79 = .ok (.getfield 139, 3) := by decide +kernel
theorem dX11_carryOut_82 : decode cX11_carryOut 82 = .ok (.iconst 1, 1) := by decide +kernel
theorem dX11_carryOut_83 : decode cX11_carryOut 83 = .ok (.iadd, 1) := by decide +kernel
theorem dX11_carryOut_84 : decode cX11_carryOut 84 = .ok (.putfield 139, 3) := by decide +kernel
theorem dX11_carryOut_87 : decode cX11_carryOut 87 = .ok (.aload_n 0, 1) := by decide +kernel
theorem dX11_carryOut_88 : decode cX11_carryOut 88 = .ok (.getfield 35, 3) := by decide +kernel
theorem dX11_carryOut_91 : decode cX11_carryOut 91 = .ok (.iconst 0, 1) := by decide +kernel
theorem dX11_carryOut_92 : decode cX11_carryOut 92 = .ok (.putfield 264, 3) := by decide +kernel
theorem dX11_carryOut_95 : decode cX11_carryOut 95 = .ok (.aload_n 0, 1) := by decide +kernel
theorem dX11_carryOut_96 : decode cX11_carryOut 96 = .ok (.getfield 35, 3) := by decide +kernel
theorem dX11_carryOut_99 : decode cX11_carryOut 99 = .ok (.getfield 235, 3) := by decide +kernel
theorem dX11_carryOut_102 : decode cX11_carryOut 102 = .ok (.getfield 236, 3) := by decide +kernel
theorem dX11_carryOut_105 : decode cX11_carryOut 105 = .ok (.ireturn, 1) := by decide +kernel
set_option maxRecDepth 20000 in
theorem rX11_carryOut {a1 : Int32} {I : MI} {Q : Int32 → MI → Prop} (H : (Wi mX11_isChoice [.int a1] I (fun r2 I1 => ((¬ r2 = 0 → (Wi mX11_chooseRoute [.ref 0, .int a1] I1 (fun r4 I3 => ((¬ r4 = 0 → (Wv mX0_travel [.ref 56, .ref 48] I3 (fun I5 => (Wv mX11_beginChange [.ref 0] I5 (fun I6 => (Wv mX11_settleAccounts [.ref 0, .ref 57] I6 (fun I7 => (Wv mX11_learnHabits [.ref 0, .ref 57] I7 (fun I8 => (Wv mX3_copyFrom [.ref 40, .ref 57] I8 (fun I9 => (∀ I10 : MI, I10 = up2 I9 30 0 ((I9 30 0) + 1) → ∀ I11 : MI, I11 = up2 I10 30 1 0 → Q (I11 40 1) I11)))))))))))) ∧ (r4 = 0 → (Q (-2) I3)))))) ∧ (r2 = 0 → (Q (-1) I1)))))) : Wi mX11_carryOut [.ref 0, .int a1] I Q := by
  show WP mX11_carryOut 286 Rf0 0 [some (.ref 0), some (.int a1)] [] I (qi Q)
  refine w_iload_n dX11_carryOut_0 rfl rfl ?_
  refine w_callS (st := []) (As := [.int a1]) dX11_carryOut_1 ml_11_200 okX11_isChoice rfl (Nat.le_of_ble_eq_true rfl) (by decide) (Nat.le_of_ble_eq_true rfl) (wc_i H (fun r2 I1 H => ?_))
  refine w_if_ne (t := 9) dX11_carryOut_4 (by decide) (fun h => ?_) (fun h => ?_)
  · replace H := H.1 h
    refine w_aload_n dX11_carryOut_9 rfl rfl ?_
    refine w_iload_n dX11_carryOut_10 rfl rfl ?_
    refine w_callV (st := []) (As := [.int a1]) dX11_carryOut_11 ml_11_203 okX11_chooseRoute kd_0 (by decide) rfl rfl rfl (Nat.le_of_ble_eq_true rfl) (by decide) (Nat.le_of_ble_eq_true rfl) (wc_i H (fun r4 I3 H => ?_))
    refine w_if_ne (t := 20) dX11_carryOut_14 (by decide) (fun h => ?_) (fun h => ?_)
    · replace H := H.1 h
      refine w_aload_n dX11_carryOut_20 rfl rfl ?_
      refine w_getR dX11_carryOut_21 fl_11_76 okC11 kd_0 (by decide) (by decide) rfl rf_0_8 ?_
      refine w_aload_n dX11_carryOut_24 rfl rfl ?_
      refine w_getR dX11_carryOut_25 fl_11_58 okC11 kd_0 (by decide) (by decide) rfl rf_0_6 ?_
      refine w_callV (st := []) (As := [.ref 48]) dX11_carryOut_28 ml_11_206 okX0_travel kd_56 (by decide) rfl rfl rfl (Nat.le_of_ble_eq_true rfl) (by decide) (Nat.le_of_ble_eq_true rfl) (wc_v H (fun I5 H => ?_))
      refine w_aload_n dX11_carryOut_31 rfl rfl ?_
      refine w_callV (st := []) (As := []) dX11_carryOut_32 ml_11_252 okX11_beginChange kd_0 (by decide) rfl rfl rfl (Nat.le_of_ble_eq_true rfl) (by decide) (Nat.le_of_ble_eq_true rfl) (wc_v H (fun I6 H => ?_))
      refine w_aload_n dX11_carryOut_35 rfl rfl ?_
      refine w_aload_n dX11_carryOut_36 rfl rfl ?_
      refine w_getR dX11_carryOut_37 fl_11_76 okC11 kd_0 (by decide) (by decide) rfl rf_0_8 ?_
      refine w_getR dX11_carryOut_40 fl_11_210 okC0 kd_56 (by decide) (by decide) rfl rf_56_4 ?_
      refine w_callV (st := []) (As := [.ref 57]) dX11_carryOut_43 ml_11_255 okX11_settleAccounts kd_0 (by decide) rfl rfl rfl (Nat.le_of_ble_eq_true rfl) (by decide) (Nat.le_of_ble_eq_true rfl) (wc_v H (fun I7 H => ?_))
      refine w_aload_n dX11_carryOut_46 rfl rfl ?_
      refine w_aload_n dX11_carryOut_47 rfl rfl ?_
      refine w_getR dX11_carryOut_48 fl_11_76 okC11 kd_0 (by decide) (by decide) rfl rf_0_8 ?_
      refine w_getR dX11_carryOut_51 fl_11_210 okC0 kd_56 (by decide) (by decide) rfl rf_56_4 ?_
      refine w_callV (st := []) (As := [.ref 57]) dX11_carryOut_54 ml_11_259 okX11_learnHabits kd_0 (by decide) rfl rfl rfl (Nat.le_of_ble_eq_true rfl) (by decide) (Nat.le_of_ble_eq_true rfl) (wc_v H (fun I8 H => ?_))
      refine w_aload_n dX11_carryOut_57 rfl rfl ?_
      refine w_getR dX11_carryOut_58 fl_11_35 okC11 kd_0 (by decide) (by decide) rfl rf_0_3 ?_
      refine w_getR dX11_carryOut_61 fl_11_235 okC8 kd_30 (by decide) (by decide) rfl rf_30_11 ?_
      refine w_aload_n dX11_carryOut_64 rfl rfl ?_
      refine w_getR dX11_carryOut_65 fl_11_76 okC11 kd_0 (by decide) (by decide) rfl rf_0_8 ?_
      refine w_getR dX11_carryOut_68 fl_11_210 okC0 kd_56 (by decide) (by decide) rfl rf_56_4 ?_
      refine w_callV (st := []) (As := [.ref 57]) dX11_carryOut_71 ml_11_262 okX3_copyFrom kd_40 (by decide) rfl rfl rfl (Nat.le_of_ble_eq_true rfl) (by decide) (Nat.le_of_ble_eq_true rfl) (wc_v H (fun I9 H => ?_))
      refine w_aload_n dX11_carryOut_74 rfl rfl ?_
      refine w_getR dX11_carryOut_75 fl_11_35 okC11 kd_0 (by decide) (by decide) rfl rf_0_3 ?_
      refine w_dup dX11_carryOut_78 rfl ?_
      refine w_getI dX11_carryOut_79 fl_11_139 okC8 kd_30 (by decide) (by decide) rfl ?_
      refine w_iconst (v := 1) dX11_carryOut_82 (by decide) ?_
      refine w_iadd dX11_carryOut_83 ?_
      refine w_putI dX11_carryOut_84 fl_11_139 okC8 kd_30 (by decide) (by decide) rfl rfl rfl (w_up fun I10 hI => ?_)
      replace H := H I10 hI
      refine w_aload_n dX11_carryOut_87 rfl rfl ?_
      refine w_getR dX11_carryOut_88 fl_11_35 okC11 kd_0 (by decide) (by decide) rfl rf_0_3 ?_
      refine w_iconst (v := 0) dX11_carryOut_91 (by decide) ?_
      refine w_putI dX11_carryOut_92 fl_11_264 okC8 kd_30 (by decide) (by decide) rfl rfl rfl (w_up fun I11 hI => ?_)
      replace H := H I11 hI
      refine w_aload_n dX11_carryOut_95 rfl rfl ?_
      refine w_getR dX11_carryOut_96 fl_11_35 okC11 kd_0 (by decide) (by decide) rfl rf_0_3 ?_
      refine w_getR dX11_carryOut_99 fl_11_235 okC8 kd_30 (by decide) (by decide) rfl rf_30_11 ?_
      refine w_getI dX11_carryOut_102 fl_11_236 okC3 kd_40 (by decide) (by decide) rfl ?_
      exact w_iret dX11_carryOut_105 rfl ⟨_, rfl, H⟩
    · replace H := H.2 h
      refine w_bipush (v := (-2)) dX11_carryOut_17 (by decide) ?_
      exact w_iret dX11_carryOut_19 rfl ⟨_, rfl, H⟩
  · replace H := H.2 h
    refine w_iconst (v := (-1)) dX11_carryOut_7 (by decide) ?_
    exact w_iret dX11_carryOut_8 rfl ⟨_, rfl, H⟩
theorem dX11_setSkipped_0 : decode cX11_setSkipped 0 = .ok (.aload_n 0, 1) := by decide +kernel
theorem dX11_setSkipped_1 : decode cX11_setSkipped 1 = .ok (.iload_n 1, 1) := by decide +kernel
theorem dX11_setSkipped_2 : decode cX11_setSkipped 2 = .ok (.invokevirtual 142, 3) := by decide +kernel
theorem dX11_setSkipped_5 : decode cX11_setSkipped 5 = .ok (.ifCond .eq 15, 3) := by decide +kernel
theorem dX11_setSkipped_8 : decode cX11_setSkipped 8 = .ok (.aload_n 0, 1) := by decide +kernel
theorem dX11_setSkipped_9 : decode cX11_setSkipped 9 = .ok (.getfield 35, 3) := by decide +kernel
theorem dX11_setSkipped_12 : decode cX11_setSkipped 12 = .ok (.iload_n 1, 1) := by decide +kernel
theorem dX11_setSkipped_13 : decode cX11_setSkipped 13 = .ok (.invokevirtual 267, 3) := by decide +kernel
theorem dX11_setSkipped_16 : decode cX11_setSkipped 16 = .ok (.iload_n 2, 1) := by decide +kernel
theorem dX11_setSkipped_17 : decode cX11_setSkipped 17 = .ok (.if_icmp .ne 5, 3) := by decide +kernel
theorem dX11_setSkipped_20 : decode cX11_setSkipped 20 = .ok (.iconst 0, 1) := by decide +kernel
theorem dX11_setSkipped_21 : decode cX11_setSkipped 21 = .ok (.ireturn, 1) := by decide +kernel
theorem dX11_setSkipped_22 : decode cX11_setSkipped 22 = .ok (.aload_n 0, 1) := by decide +kernel
theorem dX11_setSkipped_23 : decode cX11_setSkipped 23 = .ok (.invokevirtual 252, 3) := by decide +kernel
theorem dX11_setSkipped_26 : decode cX11_setSkipped 26 = .ok (.aload_n 0, 1) := by decide +kernel
theorem dX11_setSkipped_27 : decode cX11_setSkipped 27 = .ok (.getfield 35, 3) := by decide +kernel
theorem dX11_setSkipped_30 : decode cX11_setSkipped 30 = .ok (.dup, 1) := by decide +kernel
theorem dX11_setSkipped_31 : decode cX11_setSkipped 31 = .ok (.getfield 264, 3) := by decide +kernel
theorem dX11_setSkipped_34 : decode cX11_setSkipped 34 = .ok (.iconst 1, 1) := by decide +kernel
theorem dX11_setSkipped_35 : decode cX11_setSkipped 35 = .ok (.iload_n 1, 1) := by decide +kernel
theorem dX11_setSkipped_36 : decode cX11_setSkipped 36 = .ok (.ishl, 1) := by decide +kernel
theorem dX11_setSkipped_37 : decode cX11_setSkipped 37 = .ok (.ixor, 1) := by decide +kernel
theorem dX11_setSkipped_38 : decode cX11_setSkipped 38 = .ok (.putfield 264, 3) := by decide +kernel
theorem dX11_setSkipped_41 : decode cX11_setSkipped 41 = .ok (.iconst 1, 1) := by decide +kernel
theorem dX11_setSkipped_42 : decode cX11_setSkipped 42 = .ok (.ireturn, 1) := by decide +kernel
set_option maxRecDepth 20000 in
theorem rX11_setSkipped {a1 a2 : Int32} {I : MI} {Q : Int32 → MI → Prop} (H : (Wi mX11_isHouse [.ref 0, .int a1] I (fun r2 I1 => ((r2 = 0 → (Q 0 I1)) ∧ (¬ r2 = 0 → (Wi mX8_isSkipped [.ref 30, .int a1] I1 (fun r4 I3 => ((¬ r4 = a2 → (Wv mX11_beginChange [.ref 0] I3 (fun I5 => (∀ I6 : MI, I6 = up2 I5 30 1 ((I5 30 1) ^^^ ((1 : Int32) <<< (a1 &&& 31))) → Q 1 I6)))) ∧ (r4 = a2 → (Q 0 I3)))))))))) : Wi mX11_setSkipped [.ref 0, .int a1, .int a2] I Q := by
  show WP mX11_setSkipped 286 Rf0 0 [some (.ref 0), some (.int a1), some (.int a2)] [] I (qi Q)
  refine w_aload_n dX11_setSkipped_0 rfl rfl ?_
  refine w_iload_n dX11_setSkipped_1 rfl rfl ?_
  refine w_callV (st := []) (As := [.int a1]) dX11_setSkipped_2 ml_11_142 okX11_isHouse kd_0 (by decide) rfl rfl rfl (Nat.le_of_ble_eq_true rfl) (by decide) (Nat.le_of_ble_eq_true rfl) (wc_i H (fun r2 I1 H => ?_))
  refine w_if_eq (t := 20) dX11_setSkipped_5 (by decide) (fun h => ?_) (fun h => ?_)
  · replace H := H.1 h
    refine w_iconst (v := 0) dX11_setSkipped_20 (by decide) ?_
    exact w_zret dX11_setSkipped_21 rfl rfl ⟨_, rfl, H⟩
  · replace H := H.2 h
    refine w_aload_n dX11_setSkipped_8 rfl rfl ?_
    refine w_getR dX11_setSkipped_9 fl_11_35 okC11 kd_0 (by decide) (by decide) rfl rf_0_3 ?_
    refine w_iload_n dX11_setSkipped_12 rfl rfl ?_
    refine w_callV (st := []) (As := [.int a1]) dX11_setSkipped_13 ml_11_267 okX8_isSkipped kd_30 (by decide) rfl rfl rfl (Nat.le_of_ble_eq_true rfl) (by decide) (Nat.le_of_ble_eq_true rfl) (wc_i H (fun r4 I3 H => ?_))
    refine w_iload_n dX11_setSkipped_16 rfl rfl ?_
    refine w_icmp_ne (t := 22) dX11_setSkipped_17 (by decide) (fun h => ?_) (fun h => ?_)
    · replace H := H.1 h
      refine w_aload_n dX11_setSkipped_22 rfl rfl ?_
      refine w_callV (st := []) (As := []) dX11_setSkipped_23 ml_11_252 okX11_beginChange kd_0 (by decide) rfl rfl rfl (Nat.le_of_ble_eq_true rfl) (by decide) (Nat.le_of_ble_eq_true rfl) (wc_v H (fun I5 H => ?_))
      refine w_aload_n dX11_setSkipped_26 rfl rfl ?_
      refine w_getR dX11_setSkipped_27 fl_11_35 okC11 kd_0 (by decide) (by decide) rfl rf_0_3 ?_
      refine w_dup dX11_setSkipped_30 rfl ?_
      refine w_getI dX11_setSkipped_31 fl_11_264 okC8 kd_30 (by decide) (by decide) rfl ?_
      refine w_iconst (v := 1) dX11_setSkipped_34 (by decide) ?_
      refine w_iload_n dX11_setSkipped_35 rfl rfl ?_
      refine w_ishl dX11_setSkipped_36 ?_
      refine w_ixor dX11_setSkipped_37 ?_
      refine w_putI dX11_setSkipped_38 fl_11_264 okC8 kd_30 (by decide) (by decide) rfl rfl rfl (w_up fun I6 hI => ?_)
      replace H := H I6 hI
      refine w_iconst (v := 1) dX11_setSkipped_41 (by decide) ?_
      exact w_zret dX11_setSkipped_42 rfl rfl ⟨_, rfl, H⟩
    · replace H := H.2 h
      refine w_iconst (v := 0) dX11_setSkipped_20 (by decide) ?_
      exact w_zret dX11_setSkipped_21 rfl rfl ⟨_, rfl, H⟩
theorem dX11_breakBottles_0 : decode cX11_breakBottles 0 = .ok (.aload_n 0, 1) := by decide +kernel
theorem dX11_breakBottles_1 : decode cX11_breakBottles 1 = .ok (.iload_n 1, 1) := by decide +kernel
theorem dX11_breakBottles_2 : decode cX11_breakBottles 2 = .ok (.invokevirtual 142, 3) := by decide +kernel
theorem dX11_breakBottles_5 : decode cX11_breakBottles 5 = .ok (.ifCond .eq 21, 3) := by decide +kernel
theorem dX11_breakBottles_8 : decode cX11_breakBottles 8 = .ok (.iload_n 2, 1) := by decide +kernel
theorem dX11_breakBottles_9 : decode cX11_breakBottles 9 = .ok (.iconst 1, 1) := by decide +kernel
theorem dX11_breakBottles_10 : decode cX11_breakBottles 10 = .ok (.if_icmp .lt 16, 3) := by decide +kernel
theorem dX11_breakBottles_13 : decode cX11_breakBottles 13 = .ok (.iload_n 2, 1) := by decide +kernel
theorem dX11_breakBottles_14 : decode cX11_breakBottles 14 = .ok (.aload_n 0, 1) := by decide +kernel
theorem dX11_breakBottles_15 : decode cX11_breakBottles 15 = .ok (.getfield 35, 3) := by decide +kernel
theorem dX11_breakBottles_18 : decode cX11_breakBottles 18 = .ok (.getfield 217, 3) := by decide +kernel
theorem dX11_breakBottles_21 : decode cX11_breakBottles 21 = .ok (.iload_n 1, 1) := by decide +kernel
theorem dX11_breakBottles_22 : decode cX11_breakBottles 22 = .ok (.iaload, 1) := by decide +kernel
theorem dX11_breakBottles_23 : decode cX11_breakBottles 23 = .ok (.if_icmp .le 5, 3) := by decide +kernel
theorem dX11_breakBottles_26 : decode cX11_breakBottles 26 = .ok (.iconst (-1), 1) := by decide +kernel
theorem dX11_breakBottles_27 : decode cX11_breakBottles 27 = .ok (.ireturn, 1) := by decide +kernel
theorem dX11_breakBottles_28 : decode cX11_breakBottles 28 = .ok (.aload_n 0, 1) := by decide +kernel
theorem dX11_breakBottles_29 : decode cX11_breakBottles 29 = .ok (.invokevirtual 252, 3) := by decide +kernel
theorem dX11_breakBottles_32 : decode cX11_breakBottles 32 = .ok (.aload_n 0, 1) := by decide +kernel
theorem dX11_breakBottles_33 : decode cX11_breakBottles 33 = .ok (.getfield 35, 3) := by decide +kernel
theorem dX11_breakBottles_36 : decode cX11_breakBottles 36 = .ok (.getfield 217, 3) := by decide +kernel
theorem dX11_breakBottles_39 : decode cX11_breakBottles 39 = .ok (.iload_n 1, 1) := by decide +kernel
theorem dX11_breakBottles_40 : decode cX11_breakBottles 40 = .ok (.dup2, 1) := by decide +kernel
theorem dX11_breakBottles_41 : decode cX11_breakBottles 41 = .ok (.iaload, 1) := by decide +kernel
theorem dX11_breakBottles_42 : decode cX11_breakBottles 42 = .ok (.iload_n 2, 1) := by decide +kernel
theorem dX11_breakBottles_43 : decode cX11_breakBottles 43 = .ok (.isub, 1) := by decide +kernel
theorem dX11_breakBottles_44 : decode cX11_breakBottles 44 = .ok (.iastore, 1) := by decide +kernel
theorem dX11_breakBottles_45 : decode cX11_breakBottles 45 = .ok (.aload_n 0, 1) := by decide +kernel
theorem dX11_breakBottles_46 : decode cX11_breakBottles 46 = .ok (.getfield 35, 3) := by decide +kernel
theorem dX11_breakBottles_49 : decode cX11_breakBottles 49 = .ok (.getfield 226, 3) := by decide +kernel
theorem dX11_breakBottles_52 : decode cX11_breakBottles 52 = .ok (.iload_n 1, 1) := by decide +kernel
theorem dX11_breakBottles_53 : decode cX11_breakBottles 53 = .ok (.dup2, 1) := by decide +kernel
theorem dX11_breakBottles_54 : decode cX11_breakBottles 54 = .ok (.iaload, 1) := by decide +kernel
theorem dX11_breakBottles_55 : decode cX11_breakBottles 55 = .ok (.iload_n 2, 1) := by decide +kernel
theorem dX11_breakBottles_56 : decode cX11_breakBottles 56 = .ok (.iadd, 1) := by decide +kernel
theorem dX11_breakBottles_57 : decode cX11_breakBottles 57 = .ok (.iastore, 1) := by decide +kernel
theorem dX11_breakBottles_58 : decode cX11_breakBottles 58 = .ok (.aload_n 0, 1) := by decide +kernel
theorem dX11_breakBottles_59 : decode cX11_breakBottles 59 = .ok (.getfield 35, 3) := by decide +kernel
theorem dX11_breakBottles_62 : decode cX11_breakBottles 62 = .ok (.getfield 217, 3) := by decide +kernel
theorem dX11_breakBottles_65 : decode cX11_breakBottles 65 = .ok (.iload_n 1, 1) := by decide +kernel
theorem dX11_breakBottles_66 : decode cX11_breakBottles 66 = .ok (.iaload, 1) := by decide +kernel
theorem dX11_breakBottles_67 : decode cX11_breakBottles 67 = .ok (.ireturn, 1) := by decide +kernel
set_option maxRecDepth 20000 in
theorem rX11_breakBottles {a1 a2 : Int32} {I : MI} {Q : Int32 → MI → Prop} (H : (Wi mX11_isHouse [.ref 0, .int a1] I (fun r2 I1 => ((r2 = 0 → (Q (-1) I1)) ∧ (¬ r2 = 0 → ((a2 < 1 → (Q (-1) I1)) ∧ (¬ a2 < 1 → (vp_in a1 12 ∧ (a2 ≤ (I1 35 a1.toNatClampNeg) → (Wv mX11_beginChange [.ref 0] I1 (fun I3 => (vp_in a1 12 ∧ vp_in a1 12 ∧ ∀ I4 : MI, I4 = up2 I3 35 a1.toNatClampNeg ((I3 35 a1.toNatClampNeg) - a2) → vp_in a1 12 ∧ vp_in a1 12 ∧ ∀ I5 : MI, I5 = up2 I4 38 a1.toNatClampNeg ((I4 38 a1.toNatClampNeg) + a2) → vp_in a1 12 ∧ Q (I5 35 a1.toNatClampNeg) I5)))) ∧ (¬ a2 ≤ (I1 35 a1.toNatClampNeg) → (Q (-1) I1)))))))))) : Wi mX11_breakBottles [.ref 0, .int a1, .int a2] I Q := by
  show WP mX11_breakBottles 286 Rf0 0 [some (.ref 0), some (.int a1), some (.int a2)] [] I (qi Q)
  refine w_aload_n dX11_breakBottles_0 rfl rfl ?_
  refine w_iload_n dX11_breakBottles_1 rfl rfl ?_
  refine w_callV (st := []) (As := [.int a1]) dX11_breakBottles_2 ml_11_142 okX11_isHouse kd_0 (by decide) rfl rfl rfl (Nat.le_of_ble_eq_true rfl) (by decide) (Nat.le_of_ble_eq_true rfl) (wc_i H (fun r2 I1 H => ?_))
  refine w_if_eq (t := 26) dX11_breakBottles_5 (by decide) (fun h => ?_) (fun h => ?_)
  · replace H := H.1 h
    refine w_iconst (v := (-1)) dX11_breakBottles_26 (by decide) ?_
    exact w_iret dX11_breakBottles_27 rfl ⟨_, rfl, H⟩
  · replace H := H.2 h
    refine w_iload_n dX11_breakBottles_8 rfl rfl ?_
    refine w_iconst (v := 1) dX11_breakBottles_9 (by decide) ?_
    refine w_icmp_lt (t := 26) dX11_breakBottles_10 (by decide) (fun h => ?_) (fun h => ?_)
    · replace H := H.1 h
      refine w_iconst (v := (-1)) dX11_breakBottles_26 (by decide) ?_
      exact w_iret dX11_breakBottles_27 rfl ⟨_, rfl, H⟩
    · replace H := H.2 h
      refine w_iload_n dX11_breakBottles_13 rfl rfl ?_
      refine w_aload_n dX11_breakBottles_14 rfl rfl ?_
      refine w_getR dX11_breakBottles_15 fl_11_35 okC11 kd_0 (by decide) (by decide) rfl rf_0_3 ?_
      refine w_getR dX11_breakBottles_18 fl_11_217 okC8 kd_30 (by decide) (by decide) rfl rf_30_6 ?_
      refine w_iload_n dX11_breakBottles_21 rfl rfl ?_
      refine w_iald dX11_breakBottles_22 kd_35 (by decide) H.1 ?_
      replace H := H.2
      refine w_icmp_le (t := 28) dX11_breakBottles_23 (by decide) (fun h => ?_) (fun h => ?_)
      · replace H := H.1 h
        refine w_aload_n dX11_breakBottles_28 rfl rfl ?_
        refine w_callV (st := []) (As := []) dX11_breakBottles_29 ml_11_252 okX11_beginChange kd_0 (by decide) rfl rfl rfl (Nat.le_of_ble_eq_true rfl) (by decide) (Nat.le_of_ble_eq_true rfl) (wc_v H (fun I3 H => ?_))
        refine w_aload_n dX11_breakBottles_32 rfl rfl ?_
        refine w_getR dX11_breakBottles_33 fl_11_35 okC11 kd_0 (by decide) (by decide) rfl rf_0_3 ?_
        refine w_getR dX11_breakBottles_36 fl_11_217 okC8 kd_30 (by decide) (by decide) rfl rf_30_6 ?_
        refine w_iload_n dX11_breakBottles_39 rfl rfl ?_
        refine w_dup2 dX11_breakBottles_40 rfl rfl ?_
        refine w_iald dX11_breakBottles_41 kd_35 (by decide) H.1 ?_
        replace H := H.2
        refine w_iload_n dX11_breakBottles_42 rfl rfl ?_
        refine w_isub dX11_breakBottles_43 ?_
        refine w_iast dX11_breakBottles_44 kd_35 (by decide) H.1 (w_up fun I4 hI => ?_)
        replace H := H.2 I4 hI
        refine w_aload_n dX11_breakBottles_45 rfl rfl ?_
        refine w_getR dX11_breakBottles_46 fl_11_35 okC11 kd_0 (by decide) (by decide) rfl rf_0_3 ?_
        refine w_getR dX11_breakBottles_49 fl_11_226 okC8 kd_30 (by decide) (by decide) rfl rf_30_9 ?_
        refine w_iload_n dX11_breakBottles_52 rfl rfl ?_
        refine w_dup2 dX11_breakBottles_53 rfl rfl ?_
        refine w_iald dX11_breakBottles_54 kd_38 (by decide) H.1 ?_
        replace H := H.2
        refine w_iload_n dX11_breakBottles_55 rfl rfl ?_
        refine w_iadd dX11_breakBottles_56 ?_
        refine w_iast dX11_breakBottles_57 kd_38 (by decide) H.1 (w_up fun I5 hI => ?_)
        replace H := H.2 I5 hI
        refine w_aload_n dX11_breakBottles_58 rfl rfl ?_
        refine w_getR dX11_breakBottles_59 fl_11_35 okC11 kd_0 (by decide) (by decide) rfl rf_0_3 ?_
        refine w_getR dX11_breakBottles_62 fl_11_217 okC8 kd_30 (by decide) (by decide) rfl rf_30_6 ?_
        refine w_iload_n dX11_breakBottles_65 rfl rfl ?_
        refine w_iald dX11_breakBottles_66 kd_35 (by decide) H.1 ?_
        replace H := H.2
        exact w_iret dX11_breakBottles_67 rfl ⟨_, rfl, H⟩
      · replace H := H.2 h
        refine w_iconst (v := (-1)) dX11_breakBottles_26 (by decide) ?_
        exact w_iret dX11_breakBottles_27 rfl ⟨_, rfl, H⟩
theorem dX11_setOrder_0 : decode cX11_setOrder 0 = .ok (.aload_n 0, 1) := by decide +kernel
theorem dX11_setOrder_1 : decode cX11_setOrder 1 = .ok (.iload_n 1, 1) := by decide +kernel
theorem dX11_setOrder_2 : decode cX11_setOrder 2 = .ok (.invokevirtual 142, 3) := by decide +kernel
theorem dX11_setOrder_5 : decode cX11_setOrder 5 = .ok (.ifCond .eq 20, 3) := by decide +kernel
theorem dX11_setOrder_8 : decode cX11_setOrder 8 = .ok (.iload_n 2, 1) := by decide +kernel
theorem dX11_setOrder_9 : decode cX11_setOrder 9 = .ok (.invokestatic 150, 3) := by decide +kernel
theorem dX11_setOrder_12 : decode cX11_setOrder 12 = .ok (.ifCond .eq 13, 3) := by decide +kernel
theorem dX11_setOrder_15 : decode cX11_setOrder 15 = .ok (.iload_n 3, 1) := by decide +kernel
theorem dX11_setOrder_16 : decode cX11_setOrder 16 = .ok (.ifCond .lt 9, 3) := by decide +kernel
theorem dX11_setOrder_19 : decode cX11_setOrder 19 = .ok (.iload_n 3, 1) := by decide +kernel
theorem dX11_setOrder_20 : decode cX11_setOrder 20 = .ok (.bipush 9, 2) := by decide +kernel
theorem dX11_setOrder_22 : decode cX11_setOrder 22 = .ok (.if_icmp .le 5, 3) := by decide +kernel
theorem dX11_setOrder_25 : decode cX11_setOrder 25 = .ok (.iconst (-1), 1) := by decide +kernel
theorem dX11_setOrder_26 : decode cX11_setOrder 26 = .ok (.ireturn, 1) := by decide +kernel
theorem dX11_setOrder_27 : decode cX11_setOrder 27 = .ok (.aload_n 0, 1) := by decide +kernel
theorem dX11_setOrder_28 : decode cX11_setOrder 28 = .ok (.invokevirtual 252, 3) := by decide +kernel
theorem dX11_setOrder_31 : decode cX11_setOrder 31 = .ok (.iload_n 1, 1) := by decide +kernel
theorem dX11_setOrder_32 : decode cX11_setOrder 32 = .ok (.bipush 7, 2) := by decide +kernel
theorem dX11_setOrder_34 : decode cX11_setOrder 34 = .ok (.imul, 1) := by decide +kernel
theorem dX11_setOrder_35 : decode cX11_setOrder 35 = .ok (.iload_n 2, 1) := by decide +kernel
theorem dX11_setOrder_36 : decode cX11_setOrder 36 = .ok (.iadd, 1) := by decide +kernel
theorem dX11_setOrder_37 : decode cX11_setOrder 37 = .ok (.istore 4, 2) := by decide +kernel
theorem dX11_setOrder_39 : decode cX11_setOrder 39 = .ok (.aload_n 0, 1) := by decide +kernel
theorem dX11_setOrder_40 : decode cX11_setOrder 40 = .ok (.getfield 35, 3) := by decide +kernel
theorem dX11_setOrder_43 : decode cX11_setOrder 43 = .ok (.getfield 153, 3) := by decide +kernel
theorem dX11_setOrder_46 : decode cX11_setOrder 46 = .ok (.iload 4, 2) := by decide +kernel
theorem dX11_setOrder_48 : decode cX11_setOrder 48 = .ok (.iaload, 1) := by decide +kernel
theorem dX11_setOrder_49 : decode cX11_setOrder 49 = .ok (.istore 5, 2) := by decide +kernel
theorem dX11_setOrder_51 : decode cX11_setOrder 51 = .ok (.aload_n 0, 1) := by decide +kernel
theorem dX11_setOrder_52 : decode cX11_setOrder 52 = .ok (.getfield 35, 3) := by decide +kernel
theorem dX11_setOrder_55 : decode cX11_setOrder 55 = .ok (.getfield 153, 3) := by decide +kernel
theorem dX11_setOrder_58 : decode cX11_setOrder 58 = .ok (.iload 4, 2) := by decide +kernel
theorem dX11_setOrder_60 : decode cX11_setOrder 60 = .ok (.iload_n 3, 1) := by decide +kernel
theorem dX11_setOrder_61 : decode cX11_setOrder 61 = .ok (.iastore, 1) := by decide +kernel
theorem dX11_setOrder_62 : decode cX11_setOrder 62 = .ok (.iload 5, 2) := by decide +kernel
theorem dX11_setOrder_64 : decode cX11_setOrder 64 = .ok (.ireturn, 1) := by decide +kernel
set_option maxRecDepth 20000 in
theorem rX11_setOrder {a1 a2 a3 : Int32} {I : MI} {Q : Int32 → MI → Prop} (H : (Wi mX11_isHouse [.ref 0, .int a1] I (fun r2 I1 => ((r2 = 0 → (Q (-1) I1)) ∧ (¬ r2 = 0 → (Wi mX11_isWeekday [.int a2] I1 (fun r4 I3 => ((r4 = 0 → (Q (-1) I3)) ∧ (¬ r4 = 0 → ((a3 < 0 → (Q (-1) I3)) ∧ (¬ a3 < 0 → ((a3 ≤ 9 → (Wv mX11_beginChange [.ref 0] I3 (fun I5 => (vp_in ((a1 * 7) + a2) 84 ∧ vp_in ((a1 * 7) + a2) 84 ∧ ∀ I6 : MI, I6 = up2 I5 31 ((a1 * 7) + a2).toNatClampNeg a3 → Q (I5 31 ((a1 * 7) + a2).toNatClampNeg) I6)))) ∧ (¬ a3 ≤ 9 → (Q (-1) I3)))))))))))))) : Wi mX11_setOrder [.ref 0, .int a1, .int a2, .int a3] I Q := by
  show WP mX11_setOrder 286 Rf0 0 [some (.ref 0), some (.int a1), some (.int a2), some (.int a3), none, none] [] I (qi Q)
  refine w_aload_n dX11_setOrder_0 rfl rfl ?_
  refine w_iload_n dX11_setOrder_1 rfl rfl ?_
  refine w_callV (st := []) (As := [.int a1]) dX11_setOrder_2 ml_11_142 okX11_isHouse kd_0 (by decide) rfl rfl rfl (Nat.le_of_ble_eq_true rfl) (by decide) (Nat.le_of_ble_eq_true rfl) (wc_i H (fun r2 I1 H => ?_))
  refine w_if_eq (t := 25) dX11_setOrder_5 (by decide) (fun h => ?_) (fun h => ?_)
  · replace H := H.1 h
    refine w_iconst (v := (-1)) dX11_setOrder_25 (by decide) ?_
    exact w_iret dX11_setOrder_26 rfl ⟨_, rfl, H⟩
  · replace H := H.2 h
    refine w_iload_n dX11_setOrder_8 rfl rfl ?_
    refine w_callS (st := []) (As := [.int a2]) dX11_setOrder_9 ml_11_150 okX11_isWeekday rfl (Nat.le_of_ble_eq_true rfl) (by decide) (Nat.le_of_ble_eq_true rfl) (wc_i H (fun r4 I3 H => ?_))
    refine w_if_eq (t := 25) dX11_setOrder_12 (by decide) (fun h => ?_) (fun h => ?_)
    · replace H := H.1 h
      refine w_iconst (v := (-1)) dX11_setOrder_25 (by decide) ?_
      exact w_iret dX11_setOrder_26 rfl ⟨_, rfl, H⟩
    · replace H := H.2 h
      refine w_iload_n dX11_setOrder_15 rfl rfl ?_
      refine w_if_lt (t := 25) dX11_setOrder_16 (by decide) (fun h => ?_) (fun h => ?_)
      · replace H := H.1 h
        refine w_iconst (v := (-1)) dX11_setOrder_25 (by decide) ?_
        exact w_iret dX11_setOrder_26 rfl ⟨_, rfl, H⟩
      · replace H := H.2 h
        refine w_iload_n dX11_setOrder_19 rfl rfl ?_
        refine w_bipush (v := 9) dX11_setOrder_20 (by decide) ?_
        refine w_icmp_le (t := 27) dX11_setOrder_22 (by decide) (fun h => ?_) (fun h => ?_)
        · replace H := H.1 h
          refine w_aload_n dX11_setOrder_27 rfl rfl ?_
          refine w_callV (st := []) (As := []) dX11_setOrder_28 ml_11_252 okX11_beginChange kd_0 (by decide) rfl rfl rfl (Nat.le_of_ble_eq_true rfl) (by decide) (Nat.le_of_ble_eq_true rfl) (wc_v H (fun I5 H => ?_))
          refine w_iload_n dX11_setOrder_31 rfl rfl ?_
          refine w_bipush (v := 7) dX11_setOrder_32 (by decide) ?_
          refine w_imul dX11_setOrder_34 ?_
          refine w_iload_n dX11_setOrder_35 rfl rfl ?_
          refine w_iadd dX11_setOrder_36 ?_
          refine w_istore (ls' := [some (.ref 0), some (.int a1), some (.int a2), some (.int a3), some (.int ((a1 * 7) + a2)), none]) dX11_setOrder_37 (by decide) rfl rfl ?_
          refine w_aload_n dX11_setOrder_39 rfl rfl ?_
          refine w_getR dX11_setOrder_40 fl_11_35 okC11 kd_0 (by decide) (by decide) rfl rf_0_3 ?_
          refine w_getR dX11_setOrder_43 fl_11_153 okC8 kd_30 (by decide) (by decide) rfl rf_30_2 ?_
          refine w_iload dX11_setOrder_46 rfl ?_
          refine w_iald dX11_setOrder_48 kd_31 (by decide) H.1 ?_
          replace H := H.2
          refine w_istore (ls' := [some (.ref 0), some (.int a1), some (.int a2), some (.int a3), some (.int ((a1 * 7) + a2)), some (.int (I5 31 ((a1 * 7) + a2).toNatClampNeg))]) dX11_setOrder_49 (by decide) rfl rfl ?_
          refine w_aload_n dX11_setOrder_51 rfl rfl ?_
          refine w_getR dX11_setOrder_52 fl_11_35 okC11 kd_0 (by decide) (by decide) rfl rf_0_3 ?_
          refine w_getR dX11_setOrder_55 fl_11_153 okC8 kd_30 (by decide) (by decide) rfl rf_30_2 ?_
          refine w_iload dX11_setOrder_58 rfl ?_
          refine w_iload_n dX11_setOrder_60 rfl rfl ?_
          refine w_iast dX11_setOrder_61 kd_31 (by decide) H.1 (w_up fun I6 hI => ?_)
          replace H := H.2 I6 hI
          refine w_iload dX11_setOrder_62 rfl ?_
          exact w_iret dX11_setOrder_64 rfl ⟨_, rfl, H⟩
        · replace H := H.2 h
          refine w_iconst (v := (-1)) dX11_setOrder_25 (by decide) ?_
          exact w_iret dX11_setOrder_26 rfl ⟨_, rfl, H⟩
theorem dX11_setKeep_0 : decode cX11_setKeep 0 = .ok (.aload_n 0, 1) := by decide +kernel
theorem dX11_setKeep_1 : decode cX11_setKeep 1 = .ok (.iload_n 1, 1) := by decide +kernel
theorem dX11_setKeep_2 : decode cX11_setKeep 2 = .ok (.invokevirtual 142, 3) := by decide +kernel
theorem dX11_setKeep_5 : decode cX11_setKeep 5 = .ok (.ifCond .eq 13, 3) := by decide +kernel
theorem dX11_setKeep_8 : decode cX11_setKeep 8 = .ok (.iload_n 2, 1) := by decide +kernel
theorem dX11_setKeep_9 : decode cX11_setKeep 9 = .ok (.ifCond .lt 9, 3) := by decide +kernel
theorem dX11_setKeep_12 : decode cX11_setKeep 12 = .ok (.iload_n 2, 1) := by decide +kernel
theorem dX11_setKeep_13 : decode cX11_setKeep 13 = .ok (.bipush 9, 2) := by decide +kernel
theorem dX11_setKeep_15 : decode cX11_setKeep 15 = .ok (.if_icmp .le 5, 3) := by decide +kernel
theorem dX11_setKeep_18 : decode cX11_setKeep 18 = .ok (.iconst (-1), 1) := by decide +kernel
theorem dX11_setKeep_19 : decode cX11_setKeep 19 = .ok (.ireturn, 1) := by decide +kernel
theorem dX11_setKeep_20 : decode cX11_setKeep 20 = .ok (.aload_n 0, 1) := by decide +kernel
theorem dX11_setKeep_21 : decode cX11_setKeep 21 = .ok (.invokevirtual 252, 3) := by decide +kernel
theorem dX11_setKeep_24 : decode cX11_setKeep 24 = .ok (.aload_n 0, 1) := by decide +kernel
theorem dX11_setKeep_25 : decode cX11_setKeep 25 = .ok (.getfield 35, 3) := by decide +kernel
theorem dX11_setKeep_28 : decode cX11_setKeep 28 = .ok (.getfield 270, 3) := by decide +kernel
theorem dX11_setKeep_31 : decode cX11_setKeep 31 = .ok (.iload_n 1, 1) := by decide +kernel
theorem dX11_setKeep_32 : decode cX11_setKeep 32 = .ok (.iaload, 1) := by decide +kernel
theorem dX11_setKeep_33 : decode cX11_setKeep 33 = .ok (.istore_n 3, 1) := by decide +kernel
theorem dX11_setKeep_34 : decode cX11_setKeep 34 = .ok (.aload_n 0, 1) := by decide +kernel
theorem dX11_setKeep_35 : decode cX11_setKeep 35 = .ok (.getfield 35, 3) := by decide +kernel
theorem dX11_setKeep_38 : decode cX11_setKeep 38 = .ok (.getfield 270, 3) := by decide +kernel
theorem dX11_setKeep_41 : decode cX11_setKeep 41 = .ok (.iload_n 1, 1) := by decide +kernel
theorem dX11_setKeep_42 : decode cX11_setKeep 42 = .ok (.iload_n 2, 1) := by decide +kernel
theorem dX11_setKeep_43 : decode cX11_setKeep 43 = .ok (.iastore, 1) := by decide +kernel
theorem dX11_setKeep_44 : decode cX11_setKeep 44 = .ok (.iload_n 3, 1) := by decide +kernel
theorem dX11_setKeep_45 : decode cX11_setKeep 45 = .ok (.ireturn, 1) := by decide +kernel
set_option maxRecDepth 20000 in
theorem rX11_setKeep {a1 a2 : Int32} {I : MI} {Q : Int32 → MI → Prop} (H : (Wi mX11_isHouse [.ref 0, .int a1] I (fun r2 I1 => ((r2 = 0 → (Q (-1) I1)) ∧ (¬ r2 = 0 → ((a2 < 0 → (Q (-1) I1)) ∧ (¬ a2 < 0 → ((a2 ≤ 9 → (Wv mX11_beginChange [.ref 0] I1 (fun I3 => (vp_in a1 12 ∧ vp_in a1 12 ∧ ∀ I4 : MI, I4 = up2 I3 32 a1.toNatClampNeg a2 → Q (I3 32 a1.toNatClampNeg) I4)))) ∧ (¬ a2 ≤ 9 → (Q (-1) I1)))))))))) : Wi mX11_setKeep [.ref 0, .int a1, .int a2] I Q := by
  show WP mX11_setKeep 286 Rf0 0 [some (.ref 0), some (.int a1), some (.int a2), none] [] I (qi Q)
  refine w_aload_n dX11_setKeep_0 rfl rfl ?_
  refine w_iload_n dX11_setKeep_1 rfl rfl ?_
  refine w_callV (st := []) (As := [.int a1]) dX11_setKeep_2 ml_11_142 okX11_isHouse kd_0 (by decide) rfl rfl rfl (Nat.le_of_ble_eq_true rfl) (by decide) (Nat.le_of_ble_eq_true rfl) (wc_i H (fun r2 I1 H => ?_))
  refine w_if_eq (t := 18) dX11_setKeep_5 (by decide) (fun h => ?_) (fun h => ?_)
  · replace H := H.1 h
    refine w_iconst (v := (-1)) dX11_setKeep_18 (by decide) ?_
    exact w_iret dX11_setKeep_19 rfl ⟨_, rfl, H⟩
  · replace H := H.2 h
    refine w_iload_n dX11_setKeep_8 rfl rfl ?_
    refine w_if_lt (t := 18) dX11_setKeep_9 (by decide) (fun h => ?_) (fun h => ?_)
    · replace H := H.1 h
      refine w_iconst (v := (-1)) dX11_setKeep_18 (by decide) ?_
      exact w_iret dX11_setKeep_19 rfl ⟨_, rfl, H⟩
    · replace H := H.2 h
      refine w_iload_n dX11_setKeep_12 rfl rfl ?_
      refine w_bipush (v := 9) dX11_setKeep_13 (by decide) ?_
      refine w_icmp_le (t := 20) dX11_setKeep_15 (by decide) (fun h => ?_) (fun h => ?_)
      · replace H := H.1 h
        refine w_aload_n dX11_setKeep_20 rfl rfl ?_
        refine w_callV (st := []) (As := []) dX11_setKeep_21 ml_11_252 okX11_beginChange kd_0 (by decide) rfl rfl rfl (Nat.le_of_ble_eq_true rfl) (by decide) (Nat.le_of_ble_eq_true rfl) (wc_v H (fun I3 H => ?_))
        refine w_aload_n dX11_setKeep_24 rfl rfl ?_
        refine w_getR dX11_setKeep_25 fl_11_35 okC11 kd_0 (by decide) (by decide) rfl rf_0_3 ?_
        refine w_getR dX11_setKeep_28 fl_11_270 okC8 kd_30 (by decide) (by decide) rfl rf_30_3 ?_
        refine w_iload_n dX11_setKeep_31 rfl rfl ?_
        refine w_iald dX11_setKeep_32 kd_32 (by decide) H.1 ?_
        replace H := H.2
        refine w_istore_n (ls' := [some (.ref 0), some (.int a1), some (.int a2), some (.int (I3 32 a1.toNatClampNeg))]) dX11_setKeep_33 rfl (by decide) rfl rfl ?_
        refine w_aload_n dX11_setKeep_34 rfl rfl ?_
        refine w_getR dX11_setKeep_35 fl_11_35 okC11 kd_0 (by decide) (by decide) rfl rf_0_3 ?_
        refine w_getR dX11_setKeep_38 fl_11_270 okC8 kd_30 (by decide) (by decide) rfl rf_30_3 ?_
        refine w_iload_n dX11_setKeep_41 rfl rfl ?_
        refine w_iload_n dX11_setKeep_42 rfl rfl ?_
        refine w_iast dX11_setKeep_43 kd_32 (by decide) H.1 (w_up fun I4 hI => ?_)
        replace H := H.2 I4 hI
        refine w_iload_n dX11_setKeep_44 rfl rfl ?_
        exact w_iret dX11_setKeep_45 rfl ⟨_, rfl, H⟩
      · replace H := H.2 h
        refine w_iconst (v := (-1)) dX11_setKeep_18 (by decide) ?_
        exact w_iret dX11_setKeep_19 rfl ⟨_, rfl, H⟩
theorem dX11_setGate_0 : decode cX11_setGate 0 = .ok (.aload_n 0, 1) := by decide +kernel
theorem dX11_setGate_1 : decode cX11_setGate 1 = .ok (.iload_n 1, 1) := by decide +kernel
theorem dX11_setGate_2 : decode cX11_setGate 2 = .ok (.invokevirtual 156, 3) := by decide +kernel
theorem dX11_setGate_5 : decode cX11_setGate 5 = .ok (.ifCond .eq 26, 3) := by decide +kernel
theorem dX11_setGate_8 : decode cX11_setGate 8 = .ok (.iload_n 2, 1) := by decide +kernel
theorem dX11_setGate_9 : decode cX11_setGate 9 = .ok (.ifCond .lt 22, 3) := by decide +kernel
theorem dX11_setGate_12 : decode cX11_setGate 12 = .ok (.iload_n 2, 1) := by decide +kernel
theorem dX11_setGate_13 : decode cX11_setGate 13 = .ok (.sipush 1439, 3) := by decide +kernel
theorem dX11_setGate_16 : decode cX11_setGate 16 = .ok (.if_icmp .gt 15, 3) := by decide +kernel
theorem dX11_setGate_19 : decode cX11_setGate 19 = .ok (.iload_n 3, 1) := by decide +kernel
theorem dX11_setGate_20 : decode cX11_setGate 20 = .ok (.iload_n 2, 1) := by decide +kernel
theorem dX11_setGate_21 : decode cX11_setGate 21 = .ok (.if_icmp .le 10, 3) := by decide +kernel
theorem dX11_setGate_24 : decode cX11_setGate 24 = .ok (.iload_n 3, 1) := by decide +kernel
theorem dX11_setGate_25 : decode cX11_setGate 25 = .ok (.sipush 1440, 3) := by decide +kernel
theorem dX11_setGate_28 : decode cX11_setGate 28 = .ok (.if_icmp .le 5, 3) := by decide +kernel
theorem dX11_setGate_31 : decode cX11_setGate 31 = .ok (.iconst 0, 1) := by decide +kernel
theorem dX11_setGate_32 : decode cX11_setGate 32 = .ok (.ireturn, 1) := by decide +kernel
theorem dX11_setGate_33 : decode cX11_setGate 33 = .ok (.aload_n 0, 1) := by decide +kernel
theorem dX11_setGate_34 : decode cX11_setGate 34 = .ok (.invokevirtual 252, 3) := by decide +kernel
theorem dX11_setGate_37 : decode cX11_setGate 37 = .ok (.aload_n 0, 1) := by decide +kernel
theorem dX11_setGate_38 : decode cX11_setGate 38 = .ok (.getfield 35, 3) := by decide +kernel
theorem dX11_setGate_41 : decode cX11_setGate 41 = .ok (.getfield 162, 3) := by decide +kernel
theorem dX11_setGate_44 : decode cX11_setGate 44 = .ok (.iload_n 1, 1) := by decide +kernel
theorem dX11_setGate_45 : decode cX11_setGate 45 = .ok (.iload_n 2, 1) := by decide +kernel
theorem dX11_setGate_46 : decode cX11_setGate 46 = .ok (.iastore, 1) := by decide +kernel
theorem dX11_setGate_47 : decode cX11_setGate 47 = .ok (.aload_n 0, 1) := by decide +kernel
theorem dX11_setGate_48 : decode cX11_setGate 48 = .ok (.getfield 35, 3) := by decide +kernel
theorem dX11_setGate_51 : decode cX11_setGate 51 = .ok (.getfield 159, 3) := by decide +kernel
theorem dX11_setGate_54 : decode cX11_setGate 54 = .ok (.iload_n 1, 1) := by decide +kernel
theorem dX11_setGate_55 : decode cX11_setGate 55 = .ok (.iload_n 3, 1) := by decide +kernel
theorem dX11_setGate_56 : decode cX11_setGate 56 = .ok (.iastore, 1) := by decide +kernel
theorem dX11_setGate_57 : decode cX11_setGate 57 = .ok (.iconst 1, 1) := by decide +kernel
theorem dX11_setGate_58 : decode cX11_setGate 58 = .ok (.ireturn, 1) := by decide +kernel
set_option maxRecDepth 20000 in
theorem rX11_setGate {a1 a2 a3 : Int32} {I : MI} {Q : Int32 → MI → Prop} (H : (Wi mX11_isStreet [.ref 0, .int a1] I (fun r2 I1 => ((r2 = 0 → (Q 0 I1)) ∧ (¬ r2 = 0 → ((a2 < 0 → (Q 0 I1)) ∧ (¬ a2 < 0 → ((1439 < a2 → (Q 0 I1)) ∧ (¬ 1439 < a2 → ((a3 ≤ a2 → (Q 0 I1)) ∧ (¬ a3 ≤ a2 → ((a3 ≤ 1440 → (Wv mX11_beginChange [.ref 0] I1 (fun I3 => (vp_in a1 18 ∧ ∀ I4 : MI, I4 = up2 I3 33 a1.toNatClampNeg a2 → vp_in a1 18 ∧ ∀ I5 : MI, I5 = up2 I4 34 a1.toNatClampNeg a3 → Q 1 I5)))) ∧ (¬ a3 ≤ 1440 → (Q 0 I1)))))))))))))) : Wi mX11_setGate [.ref 0, .int a1, .int a2, .int a3] I Q := by
  show WP mX11_setGate 286 Rf0 0 [some (.ref 0), some (.int a1), some (.int a2), some (.int a3)] [] I (qi Q)
  refine w_aload_n dX11_setGate_0 rfl rfl ?_
  refine w_iload_n dX11_setGate_1 rfl rfl ?_
  refine w_callV (st := []) (As := [.int a1]) dX11_setGate_2 ml_11_156 okX11_isStreet kd_0 (by decide) rfl rfl rfl (Nat.le_of_ble_eq_true rfl) (by decide) (Nat.le_of_ble_eq_true rfl) (wc_i H (fun r2 I1 H => ?_))
  refine w_if_eq (t := 31) dX11_setGate_5 (by decide) (fun h => ?_) (fun h => ?_)
  · replace H := H.1 h
    refine w_iconst (v := 0) dX11_setGate_31 (by decide) ?_
    exact w_zret dX11_setGate_32 rfl rfl ⟨_, rfl, H⟩
  · replace H := H.2 h
    refine w_iload_n dX11_setGate_8 rfl rfl ?_
    refine w_if_lt (t := 31) dX11_setGate_9 (by decide) (fun h => ?_) (fun h => ?_)
    · replace H := H.1 h
      refine w_iconst (v := 0) dX11_setGate_31 (by decide) ?_
      exact w_zret dX11_setGate_32 rfl rfl ⟨_, rfl, H⟩
    · replace H := H.2 h
      refine w_iload_n dX11_setGate_12 rfl rfl ?_
      refine w_sipush (v := 1439) dX11_setGate_13 (by decide) ?_
      refine w_icmp_gt (t := 31) dX11_setGate_16 (by decide) (fun h => ?_) (fun h => ?_)
      · replace H := H.1 h
        refine w_iconst (v := 0) dX11_setGate_31 (by decide) ?_
        exact w_zret dX11_setGate_32 rfl rfl ⟨_, rfl, H⟩
      · replace H := H.2 h
        refine w_iload_n dX11_setGate_19 rfl rfl ?_
        refine w_iload_n dX11_setGate_20 rfl rfl ?_
        refine w_icmp_le (t := 31) dX11_setGate_21 (by decide) (fun h => ?_) (fun h => ?_)
        · replace H := H.1 h
          refine w_iconst (v := 0) dX11_setGate_31 (by decide) ?_
          exact w_zret dX11_setGate_32 rfl rfl ⟨_, rfl, H⟩
        · replace H := H.2 h
          refine w_iload_n dX11_setGate_24 rfl rfl ?_
          refine w_sipush (v := 1440) dX11_setGate_25 (by decide) ?_
          refine w_icmp_le (t := 33) dX11_setGate_28 (by decide) (fun h => ?_) (fun h => ?_)
          · replace H := H.1 h
            refine w_aload_n dX11_setGate_33 rfl rfl ?_
            refine w_callV (st := []) (As := []) dX11_setGate_34 ml_11_252 okX11_beginChange kd_0 (by decide) rfl rfl rfl (Nat.le_of_ble_eq_true rfl) (by decide) (Nat.le_of_ble_eq_true rfl) (wc_v H (fun I3 H => ?_))
            refine w_aload_n dX11_setGate_37 rfl rfl ?_
            refine w_getR dX11_setGate_38 fl_11_35 okC11 kd_0 (by decide) (by decide) rfl rf_0_3 ?_
            refine w_getR dX11_setGate_41 fl_11_162 okC8 kd_30 (by decide) (by decide) rfl rf_30_4 ?_
            refine w_iload_n dX11_setGate_44 rfl rfl ?_
            refine w_iload_n dX11_setGate_45 rfl rfl ?_
            refine w_iast dX11_setGate_46 kd_33 (by decide) H.1 (w_up fun I4 hI => ?_)
            replace H := H.2 I4 hI
            refine w_aload_n dX11_setGate_47 rfl rfl ?_
            refine w_getR dX11_setGate_48 fl_11_35 okC11 kd_0 (by decide) (by decide) rfl rf_0_3 ?_
            refine w_getR dX11_setGate_51 fl_11_159 okC8 kd_30 (by decide) (by decide) rfl rf_30_5 ?_
            refine w_iload_n dX11_setGate_54 rfl rfl ?_
            refine w_iload_n dX11_setGate_55 rfl rfl ?_
            refine w_iast dX11_setGate_56 kd_34 (by decide) H.1 (w_up fun I5 hI => ?_)
            replace H := H.2 I5 hI
            refine w_iconst (v := 1) dX11_setGate_57 (by decide) ?_
            exact w_zret dX11_setGate_58 rfl rfl ⟨_, rfl, H⟩
          · replace H := H.2 h
            refine w_iconst (v := 0) dX11_setGate_31 (by decide) ?_
            exact w_zret dX11_setGate_32 rfl rfl ⟨_, rfl, H⟩
theorem dX11_undo_0 : decode cX11_undo 0 = .ok (.aload_n 0, 1) := by decide +kernel
theorem dX11_undo_1 : decode cX11_undo 1 = .ok (.getfield 83, 3) := by decide +kernel
theorem dX11_undo_4 : decode cX11_undo 4 = .ok (.getfield 273, 3) := by decide +kernel
theorem dX11_undo_7 : decode cX11_undo 7 = .ok (.ifCond .ne 6, 3) := by decide +kernel
theorem dX11_undo_10 : decode cX11_undo 10 = .ok (.bipush (-2), 2) := by decide +kernel
theorem dX11_undo_12 : decode cX11_undo 12 = .ok (.ireturn, 1) := by decide +kernel
theorem dX11_undo_13 : decode cX11_undo 13 = .ok (.aload_n 0, 1) := by decide +kernel
theorem dX11_undo_14 : decode cX11_undo 14 = .ok (.getfield 83, 3) := by decide +kernel
theorem dX11_undo_17 : decode cX11_undo 17 = .ok (.aload_n 0, 1) := by decide +kernel
theorem dX11_undo_18 : decode cX11_undo 18 = .ok (.getfield 35, 3) := by decide +kernel
theorem dX11_undo_21 : decode cX11_undo 21 = .ok (.invokevirtual 274, 3) := by decide +kernel
theorem dX11_undo_24 : decode cX11_undo 24 = .ok (.aload_n 0, 1) := by decide +kernel
theorem dX11_undo_25 : decode cX11_undo 25 = .ok (.getfield 67, 3) := by decide +kernel
theorem dX11_undo_28 : decode cX11_undo 28 = .ok (.invokevirtual 124, 3) := by decide +kernel
theorem dX11_undo_31 : decode cX11_undo 31 = .ok (.aload_n 0, 1) := by decide +kernel
theorem dX11_undo_32 : decode cX11_undo 32 = .ok (.getfield 83, 3) := by decide +kernel
theorem dX11_undo_35 : decode cX11_undo 35 = .ok (.getfield 273, 3) := by decide +kernel
theorem dX11_undo_38 : decode cX11_undo 38 = .ok (.ireturn, 1) := by decide +kernel
set_option maxRecDepth 20000 in
theorem rX11_undo {I : MI} {Q : Int32 → MI → Prop} (H : ((¬ (I 61 2) = 0 → (Wv mX2_recall [.ref 61, .ref 30] I (fun I1 => (Wv mX1_forget [.ref 50] I1 (fun I2 => (Q (I2 61 2) I2)))))) ∧ ((I 61 2) = 0 → (Q (-2) I)))) : Wi mX11_undo [.ref 0] I Q := by
  show WP mX11_undo 286 Rf0 0 [some (.ref 0)] [] I (qi Q)
  refine w_aload_n dX11_undo_0 rfl rfl ?_
  refine w_getR dX11_undo_1 fl_11_83 okC11 kd_0 (by decide) (by decide) rfl rf_0_9 ?_
  refine w_getI dX11_undo_4 fl_11_273 okC2 kd_61 (by decide) (by decide) rfl ?_
  refine w_if_ne (t := 13) dX11_undo_7 (by decide) (fun h => ?_) (fun h => ?_)
  · replace H := H.1 h
    refine w_aload_n dX11_undo_13 rfl rfl ?_
    refine w_getR dX11_undo_14 fl_11_83 okC11 kd_0 (by decide) (by decide) rfl rf_0_9 ?_
    refine w_aload_n dX11_undo_17 rfl rfl ?_
    refine w_getR dX11_undo_18 fl_11_35 okC11 kd_0 (by decide) (by decide) rfl rf_0_3 ?_
    refine w_callV (st := []) (As := [.ref 30]) dX11_undo_21 ml_11_274 okX2_recall kd_61 (by decide) rfl rfl rfl (Nat.le_of_ble_eq_true rfl) (by decide) (Nat.le_of_ble_eq_true rfl) (wc_v H (fun I1 H => ?_))
    refine w_aload_n dX11_undo_24 rfl rfl ?_
    refine w_getR dX11_undo_25 fl_11_67 okC11 kd_0 (by decide) (by decide) rfl rf_0_7 ?_
    refine w_callV (st := []) (As := []) dX11_undo_28 ml_11_124 okX1_forget kd_50 (by decide) rfl rfl rfl (Nat.le_of_ble_eq_true rfl) (by decide) (Nat.le_of_ble_eq_true rfl) (wc_v H (fun I2 H => ?_))
    refine w_aload_n dX11_undo_31 rfl rfl ?_
    refine w_getR dX11_undo_32 fl_11_83 okC11 kd_0 (by decide) (by decide) rfl rf_0_9 ?_
    refine w_getI dX11_undo_35 fl_11_273 okC2 kd_61 (by decide) (by decide) rfl ?_
    exact w_iret dX11_undo_38 rfl ⟨_, rfl, H⟩
  · replace H := H.2 h
    refine w_bipush (v := (-2)) dX11_undo_10 (by decide) ?_
    exact w_iret dX11_undo_12 rfl ⟨_, rfl, H⟩
theorem dX11_saveSnapshot_0 : decode cX11_saveSnapshot 0 = .ok (.iload_n 1, 1) := by decide +kernel
theorem dX11_saveSnapshot_1 : decode cX11_saveSnapshot 1 = .ok (.invokestatic 277, 3) := by decide +kernel
theorem dX11_saveSnapshot_4 : decode cX11_saveSnapshot 4 = .ok (.ifCond .ne 5, 3) := by decide +kernel
theorem dX11_saveSnapshot_7 : decode cX11_saveSnapshot 7 = .ok (.iconst 0, 1) := by decide +kernel
theorem dX11_saveSnapshot_8 : decode cX11_saveSnapshot 8 = .ok (.ireturn, 1) := by decide +kernel
theorem dX11_saveSnapshot_9 : decode cX11_saveSnapshot 9 = .ok (.aload_n 0, 1) := by decide +kernel
theorem dX11_saveSnapshot_10 : decode cX11_saveSnapshot 10 = .ok (.getfield 87, 3) := by decide +kernel
theorem dX11_saveSnapshot_13 : decode cX11_saveSnapshot 13 = .ok (.iload_n 1, 1) := by decide +kernel
theorem dX11_saveSnapshot_14 : decode cX11_saveSnapshot 14 = .ok (.aaload, 1) := by decide +kernel
theorem dX11_saveSnapshot_15 : decode cX11_saveSnapshot 15 = .ok (.aload_n 0, 1) := by decide +kernel
theorem dX11_saveSnapshot_16 : decode cX11_saveSnapshot 16 = .ok (.getfield 35, 3) := by decide +kernel
theorem dX11_saveSnapshot_19 : decode cX11_saveSnapshot 19 = .ok (.invokevirtual 115, 3) := by decide +kernel
theorem dX11_saveSnapshot_22 : decode cX11_saveSnapshot 22 = .ok (.aload_n 0, 1) := by decide +kernel
theorem dX11_saveSnapshot_23 : decode cX11_saveSnapshot 23 = .ok (.getfield 91, 3) := by decide +kernel
theorem dX11_saveSnapshot_26 : decode cX11_saveSnapshot 26 = .ok (.iload_n 1, 1) := by decide +kernel
theorem dX11_saveSnapshot_27 : decode cX11_saveSnapshot 27 = .ok (.iconst 1, 1) := by decide +kernel
theorem dX11_saveSnapshot_28 : decode cX11_saveSnapshot 28 = .ok (.bastore, 1) := by decide +kernel
theorem dX11_saveSnapshot_29 : decode cX11_saveSnapshot 29 = .ok (.iconst 1, 1) := by decide +kernel
theorem dX11_saveSnapshot_30 : decode cX11_saveSnapshot 30 = .ok (.ireturn, 1) := by decide +kernel
set_option maxRecDepth 20000 in
theorem rX11_saveSnapshot {a1 : Int32} {I : MI} {Q : Int32 → MI → Prop} (H : (Wi mX11_isSlot [.int a1] I (fun r2 I1 => ((¬ r2 = 0 → (vp_in a1 2 ∧ ∃ r3 : Nat, Rf0 231 a1.toNatClampNeg = some r3 ∧ kd r3 = (0, 8) ∧ r3 < 286 ∧ Wv mX8_copyFrom [.ref r3, .ref 30] I1 (fun I4 => (vp_in a1 2 ∧ ∀ I5 : MI, I5 = up2 I4 260 a1.toNatClampNeg (vp_nar .boolean 1) → Q 1 I5)))) ∧ (r2 = 0 → (Q 0 I1)))))) : Wi mX11_saveSnapshot [.ref 0, .int a1] I Q := by
  show WP mX11_saveSnapshot 286 Rf0 0 [some (.ref 0), some (.int a1)] [] I (qi Q)
  refine w_iload_n dX11_saveSnapshot_0 rfl rfl ?_
  refine w_callS (st := []) (As := [.int a1]) dX11_saveSnapshot_1 ml_11_277 okX11_isSlot rfl (Nat.le_of_ble_eq_true rfl) (by decide) (Nat.le_of_ble_eq_true rfl) (wc_i H (fun r2 I1 H => ?_))
  refine w_if_ne (t := 9) dX11_saveSnapshot_4 (by decide) (fun h => ?_) (fun h => ?_)
  · replace H := H.1 h
    refine w_aload_n dX11_saveSnapshot_9 rfl rfl ?_
    refine w_getR dX11_saveSnapshot_10 fl_11_87 okC11 kd_0 (by decide) (by decide) rfl rf_0_10 ?_
    refine w_iload_n dX11_saveSnapshot_13 rfl rfl ?_
    obtain ⟨hi, r3, hr, hkr3, hlr3, H⟩ := H
    refine w_aald dX11_saveSnapshot_14 kd_231 (by decide) hi hr ?_
    refine w_aload_n dX11_saveSnapshot_15 rfl rfl ?_
    refine w_getR dX11_saveSnapshot_16 fl_11_35 okC11 kd_0 (by decide) (by decide) rfl rf_0_3 ?_
    refine w_callV (st := []) (As := [.ref 30]) dX11_saveSnapshot_19 ml_11_115 okX8_copyFrom hkr3 hlr3 rfl rfl rfl (Nat.le_of_ble_eq_true rfl) (by decide) (Nat.le_of_ble_eq_true rfl) (wc_v H (fun I4 H => ?_))
    refine w_aload_n dX11_saveSnapshot_22 rfl rfl ?_
    refine w_getR dX11_saveSnapshot_23 fl_11_91 okC11 kd_0 (by decide) (by decide) rfl rf_0_11 ?_
    refine w_iload_n dX11_saveSnapshot_26 rfl rfl ?_
    refine w_iconst (v := 1) dX11_saveSnapshot_27 (by decide) ?_
    refine w_zast dX11_saveSnapshot_28 kd_260 (by decide) H.1 (w_up fun I5 hI => ?_)
    replace H := H.2 I5 hI
    refine w_iconst (v := 1) dX11_saveSnapshot_29 (by decide) ?_
    exact w_zret dX11_saveSnapshot_30 rfl rfl ⟨_, rfl, H⟩
  · replace H := H.2 h
    refine w_iconst (v := 0) dX11_saveSnapshot_7 (by decide) ?_
    exact w_zret dX11_saveSnapshot_8 rfl rfl ⟨_, rfl, H⟩
theorem dX11_restoreSnapshot_0 : decode cX11_restoreSnapshot 0 = .ok (.iload_n 1, 1) := by decide +kernel
theorem dX11_restoreSnapshot_1 : decode cX11_restoreSnapshot 1 = .ok (.invokestatic 277, 3) := by decide +kernel
theorem dX11_restoreSnapshot_4 : decode cX11_restoreSnapshot 4 = .ok (.ifCond .eq 12, 3) := by decide +kernel
theorem dX11_restoreSnapshot_7 : decode cX11_restoreSnapshot 7 = .ok (.aload_n 0, 1) := by decide +kernel
theorem dX11_restoreSnapshot_8 : decode cX11_restoreSnapshot 8 = .ok (.getfield 91, 3) := by decide +kernel
theorem dX11_restoreSnapshot_11 : decode cX11_restoreSnapshot 11 = .ok (.iload_n 1, 1) := by decide +kernel
theorem dX11_restoreSnapshot_12 : decode cX11_restoreSnapshot 12 = .ok (.baload, 1) := by decide +kernel
theorem dX11_restoreSnapshot_13 : decode cX11_restoreSnapshot 13 = .ok (.ifCond .ne 5, 3) := by decide +kernel
theorem dX11_restoreSnapshot_16 : decode cX11_restoreSnapshot 16 = .ok (.iconst 0, 1) := by decide +kernel
theorem dX11_restoreSnapshot_17 : decode cX11_restoreSnapshot 17 = .ok (.ireturn, 1) := by decide +kernel
theorem dX11_restoreSnapshot_18 : decode cX11_restoreSnapshot 18 = .ok (.aload_n 0, 1) := by decide +kernel
theorem dX11_restoreSnapshot_19 : decode cX11_restoreSnapshot 19 = .ok (.getfield 35, 3) := by decide +kernel
theorem dX11_restoreSnapshot_22 : decode cX11_restoreSnapshot 22 = .ok (.aload_n 0, 1) := by decide +kernel
theorem dX11_restoreSnapshot_23 : decode cX11_restoreSnapshot 23 = .ok (.getfield 87, 3) := by decide +kernel
theorem dX11_restoreSnapshot_26 : decode cX11_restoreSnapshot 26 = .ok (.iload_n 1, 1) := by decide +kernel
theorem dX11_restoreSnapshot_27 : decode cX11_restoreSnapshot 27 = .ok (.aaload, 1) := by decide +kernel
theorem dX11_restoreSnapshot_28 : decode cX11_restoreSnapshot 28 = .ok (.invokevirtual 115, 3) := by decide +kernel
theorem dX11_restoreSnapshot_31 : decode cX11_restoreSnapshot 31 = .ok (.aload_n 0, 1) := by decide +kernel
theorem dX11_restoreSnapshot_32 : decode cX11_restoreSnapshot 32 = .ok (.getfield 83, 3) := by decide +kernel
theorem dX11_restoreSnapshot_35 : decode cX11_restoreSnapshot 35 = .ok (.invokevirtual 118, 3) := by decide +kernel
theorem dX11_restoreSnapshot_38 : decode cX11_restoreSnapshot 38 = .ok (.aload_n 0, 1) := by decide +kernel
theorem dX11_restoreSnapshot_39 : decode cX11_restoreSnapshot 39 = .ok (.getfield 67, 3) := by decide +kernel
theorem dX11_restoreSnapshot_42 : decode cX11_restoreSnapshot 42 = .ok (.invokevirtual 124, 3) := by decide +kernel
theorem dX11_restoreSnapshot_45 : decode cX11_restoreSnapshot 45 = .ok (.iconst 1, 1) := by decide +kernel
theorem dX11_restoreSnapshot_46 : decode cX11_restoreSnapshot 46 = .ok (.ireturn, 1) := by decide +kernel
set_option maxRecDepth 20000 in
theorem rX11_restoreSnapshot {a1 : Int32} {I : MI} {Q : Int32 → MI → Prop} (H : (Wi mX11_isSlot [.int a1] I (fun r2 I1 => ((r2 = 0 → (Q 0 I1)) ∧ (¬ r2 = 0 → (vp_in a1 2 ∧ (¬ (I1 260 a1.toNatClampNeg) = 0 → (vp_in a1 2 ∧ ∃ r3 : Nat, Rf0 231 a1.toNatClampNeg = some r3 ∧ kd r3 = (0, 8) ∧ r3 < 286 ∧ Wv mX8_copyFrom [.ref 30, .ref r3] I1 (fun I4 => (Wv mX2_clear [.ref 61] I4 (fun I5 => (Wv mX1_forget [.ref 50] I5 (fun I6 => (Q 1 I6)))))))) ∧ ((I1 260 a1.toNatClampNeg) = 0 → (Q 0 I1)))))))) : Wi mX11_restoreSnapshot [.ref 0, .int a1] I Q := by
  show WP mX11_restoreSnapshot 286 Rf0 0 [some (.ref 0), some (.int a1)] [] I (qi Q)
  refine w_iload_n dX11_restoreSnapshot_0 rfl rfl ?_
  refine w_callS (st := []) (As := [.int a1]) dX11_restoreSnapshot_1 ml_11_277 okX11_isSlot rfl (Nat.le_of_ble_eq_true rfl) (by decide) (Nat.le_of_ble_eq_true rfl) (wc_i H (fun r2 I1 H => ?_))
  refine w_if_eq (t := 16) dX11_restoreSnapshot_4 (by decide) (fun h => ?_) (fun h => ?_)
  · replace H := H.1 h
    refine w_iconst (v := 0) dX11_restoreSnapshot_16 (by decide) ?_
    exact w_zret dX11_restoreSnapshot_17 rfl rfl ⟨_, rfl, H⟩
  · replace H := H.2 h
    refine w_aload_n dX11_restoreSnapshot_7 rfl rfl ?_
    refine w_getR dX11_restoreSnapshot_8 fl_11_91 okC11 kd_0 (by decide) (by decide) rfl rf_0_11 ?_
    refine w_iload_n dX11_restoreSnapshot_11 rfl rfl ?_
    refine w_zald dX11_restoreSnapshot_12 kd_260 (by decide) H.1 ?_
    replace H := H.2
    refine w_if_ne (t := 18) dX11_restoreSnapshot_13 (by decide) (fun h => ?_) (fun h => ?_)
    · replace H := H.1 h
      refine w_aload_n dX11_restoreSnapshot_18 rfl rfl ?_
      refine w_getR dX11_restoreSnapshot_19 fl_11_35 okC11 kd_0 (by decide) (by decide) rfl rf_0_3 ?_
      refine w_aload_n dX11_restoreSnapshot_22 rfl rfl ?_
      refine w_getR dX11_restoreSnapshot_23 fl_11_87 okC11 kd_0 (by decide) (by decide) rfl rf_0_10 ?_
      refine w_iload_n dX11_restoreSnapshot_26 rfl rfl ?_
      obtain ⟨hi, r3, hr, hkr3, hlr3, H⟩ := H
      refine w_aald dX11_restoreSnapshot_27 kd_231 (by decide) hi hr ?_
      refine w_callV (st := []) (As := [.ref r3]) dX11_restoreSnapshot_28 ml_11_115 okX8_copyFrom kd_30 (by decide) rfl rfl rfl (Nat.le_of_ble_eq_true rfl) (by decide) (Nat.le_of_ble_eq_true rfl) (wc_v H (fun I4 H => ?_))
      refine w_aload_n dX11_restoreSnapshot_31 rfl rfl ?_
      refine w_getR dX11_restoreSnapshot_32 fl_11_83 okC11 kd_0 (by decide) (by decide) rfl rf_0_9 ?_
      refine w_callV (st := []) (As := []) dX11_restoreSnapshot_35 ml_11_118 okX2_clear kd_61 (by decide) rfl rfl rfl (Nat.le_of_ble_eq_true rfl) (by decide) (Nat.le_of_ble_eq_true rfl) (wc_v H (fun I5 H => ?_))
      refine w_aload_n dX11_restoreSnapshot_38 rfl rfl ?_
      refine w_getR dX11_restoreSnapshot_39 fl_11_67 okC11 kd_0 (by decide) (by decide) rfl rf_0_7 ?_
      refine w_callV (st := []) (As := []) dX11_restoreSnapshot_42 ml_11_124 okX1_forget kd_50 (by decide) rfl rfl rfl (Nat.le_of_ble_eq_true rfl) (by decide) (Nat.le_of_ble_eq_true rfl) (wc_v H (fun I6 H => ?_))
      refine w_iconst (v := 1) dX11_restoreSnapshot_45 (by decide) ?_
      exact w_zret dX11_restoreSnapshot_46 rfl rfl ⟨_, rfl, H⟩
    · replace H := H.2 h
      refine w_iconst (v := 0) dX11_restoreSnapshot_16 (by decide) ?_
      exact w_zret dX11_restoreSnapshot_17 rfl rfl ⟨_, rfl, H⟩
theorem dX11_isHouse_0 : decode cX11_isHouse 0 = .ok (.iload_n 1, 1) := by decide +kernel
theorem dX11_isHouse_1 : decode cX11_isHouse 1 = .ok (.ifCond .lt 18, 3) := by decide +kernel
theorem dX11_isHouse_4 : decode cX11_isHouse 4 = .ok (.iload_n 1, 1) := by decide +kernel
theorem dX11_isHouse_5 : decode cX11_isHouse 5 = .ok (.aload_n 0, 1) := by decide +kernel
theorem dX11_isHouse_6 : decode cX11_isHouse 6 = .ok (.getfield 28, 3) := by decide +kernel
theorem dX11_isHouse_9 : decode cX11_isHouse 9 = .ok (.getfield 127, 3) := by decide +kernel
theorem dX11_isHouse_12 : decode cX11_isHouse 12 = .ok (.if_icmp .ge 7, 3) := by decide +kernel
theorem dX11_isHouse_15 : decode cX11_isHouse 15 = .ok (.iconst 1, 1) := by decide +kernel
theorem dX11_isHouse_16 : decode cX11_isHouse 16 = .ok (.goto 4, 3) := by decide +kernel
theorem dX11_isHouse_19 : decode cX11_isHouse 19 = .ok (.iconst 0, 1) := by decide +kernel
theorem dX11_isHouse_20 : decode cX11_isHouse 20 = .ok (.ireturn, 1) := by decide +kernel
set_option maxRecDepth 20000 in
theorem rX11_isHouse {a1 : Int32} {I : MI} {Q : Int32 → MI → Prop} (H : ((a1 < 0 → (Q 0 I)) ∧ (¬ a1 < 0 → (((I 24 2) ≤ a1 → (Q 0 I)) ∧ (¬ (I 24 2) ≤ a1 → (Q 1 I)))))) : Wi mX11_isHouse [.ref 0, .int a1] I Q := by
  show WP mX11_isHouse 286 Rf0 0 [some (.ref 0), some (.int a1)] [] I (qi Q)
  refine w_iload_n dX11_isHouse_0 rfl rfl ?_
  refine w_if_lt (t := 19) dX11_isHouse_1 (by decide) (fun h => ?_) (fun h => ?_)
  · replace H := H.1 h
    refine w_iconst (v := 0) dX11_isHouse_19 (by decide) ?_
    exact w_zret dX11_isHouse_20 rfl rfl ⟨_, rfl, H⟩
  · replace H := H.2 h
    refine w_iload_n dX11_isHouse_4 rfl rfl ?_
    refine w_aload_n dX11_isHouse_5 rfl rfl ?_
    refine w_getR dX11_isHouse_6 fl_11_28 okC11 kd_0 (by decide) (by decide) rfl rf_0_2 ?_
    refine w_getI dX11_isHouse_9 fl_11_127 okC6 kd_24 (by decide) (by decide) rfl ?_
    refine w_icmp_ge (t := 19) dX11_isHouse_12 (by decide) (fun h => ?_) (fun h => ?_)
    · replace H := H.1 h
      refine w_iconst (v := 0) dX11_isHouse_19 (by decide) ?_
      exact w_zret dX11_isHouse_20 rfl rfl ⟨_, rfl, H⟩
    · replace H := H.2 h
      refine w_iconst (v := 1) dX11_isHouse_15 (by decide) ?_
      refine w_goto (t := 20) dX11_isHouse_16 (by decide) ?_
      exact w_zret dX11_isHouse_20 rfl rfl ⟨_, rfl, H⟩
theorem dX11_isStreet_0 : decode cX11_isStreet 0 = .ok (.iload_n 1, 1) := by decide +kernel
theorem dX11_isStreet_1 : decode cX11_isStreet 1 = .ok (.ifCond .lt 18, 3) := by decide +kernel
theorem dX11_isStreet_4 : decode cX11_isStreet 4 = .ok (.iload_n 1, 1) := by decide +kernel
theorem dX11_isStreet_5 : decode cX11_isStreet 5 = .ok (.aload_n 0, 1) := by decide +kernel
theorem dX11_isStreet_6 : decode cX11_isStreet 6 = .ok (.getfield 28, 3) := by decide +kernel
theorem dX11_isStreet_9 : decode cX11_isStreet 9 = .ok (.getfield 133, 3) := by decide +kernel
theorem dX11_isStreet_12 : decode cX11_isStreet 12 = .ok (.if_icmp .ge 7, 3) := by decide +kernel
theorem dX11_isStreet_15 : decode cX11_isStreet 15 = .ok (.iconst 1, 1) := by decide +kernel
theorem dX11_isStreet_16 : decode cX11_isStreet 16 = .ok (.goto 4, 3) := by decide +kernel
theorem dX11_isStreet_19 : decode cX11_isStreet 19 = .ok (.iconst 0, 1) := by decide +kernel
theorem dX11_isStreet_20 : decode cX11_isStreet 20 = .ok (.ireturn, 1) := by decide +kernel
set_option maxRecDepth 20000 in
theorem rX11_isStreet {a1 : Int32} {I : MI} {Q : Int32 → MI → Prop} (H : ((a1 < 0 → (Q 0 I)) ∧ (¬ a1 < 0 → (((I 24 1) ≤ a1 → (Q 0 I)) ∧ (¬ (I 24 1) ≤ a1 → (Q 1 I)))))) : Wi mX11_isStreet [.ref 0, .int a1] I Q := by
  show WP mX11_isStreet 286 Rf0 0 [some (.ref 0), some (.int a1)] [] I (qi Q)
  refine w_iload_n dX11_isStreet_0 rfl rfl ?_
  refine w_if_lt (t := 19) dX11_isStreet_1 (by decide) (fun h => ?_) (fun h => ?_)
  · replace H := H.1 h
    refine w_iconst (v := 0) dX11_isStreet_19 (by decide) ?_
    exact w_zret dX11_isStreet_20 rfl rfl ⟨_, rfl, H⟩
  · replace H := H.2 h
    refine w_iload_n dX11_isStreet_4 rfl rfl ?_
    refine w_aload_n dX11_isStreet_5 rfl rfl ?_
    refine w_getR dX11_isStreet_6 fl_11_28 okC11 kd_0 (by decide) (by decide) rfl rf_0_2 ?_
    refine w_getI dX11_isStreet_9 fl_11_133 okC6 kd_24 (by decide) (by decide) rfl ?_
    refine w_icmp_ge (t := 19) dX11_isStreet_12 (by decide) (fun h => ?_) (fun h => ?_)
    · replace H := H.1 h
      refine w_iconst (v := 0) dX11_isStreet_19 (by decide) ?_
      exact w_zret dX11_isStreet_20 rfl rfl ⟨_, rfl, H⟩
    · replace H := H.2 h
      refine w_iconst (v := 1) dX11_isStreet_15 (by decide) ?_
      refine w_goto (t := 20) dX11_isStreet_16 (by decide) ?_
      exact w_zret dX11_isStreet_20 rfl rfl ⟨_, rfl, H⟩
theorem dX11_isNode_0 : decode cX11_isNode 0 = .ok (.iload_n 1, 1) := by decide +kernel
theorem dX11_isNode_1 : decode cX11_isNode 1 = .ok (.ifCond .lt 18, 3) := by decide +kernel
theorem dX11_isNode_4 : decode cX11_isNode 4 = .ok (.iload_n 1, 1) := by decide +kernel
theorem dX11_isNode_5 : decode cX11_isNode 5 = .ok (.aload_n 0, 1) := by decide +kernel
theorem dX11_isNode_6 : decode cX11_isNode 6 = .ok (.getfield 28, 3) := by decide +kernel
theorem dX11_isNode_9 : decode cX11_isNode 9 = .ok (.getfield 130, 3) := by decide +kernel
theorem dX11_isNode_12 : decode cX11_isNode 12 = .ok (.if_icmp .ge 7, 3) := by decide +kernel
theorem dX11_isNode_15 : decode cX11_isNode 15 = .ok (.iconst 1, 1) := by decide +kernel
theorem dX11_isNode_16 : decode cX11_isNode 16 = .ok (.goto 4, 3) := by decide +kernel
theorem dX11_isNode_19 : decode cX11_isNode 19 = .ok (.iconst 0, 1) := by decide +kernel
theorem dX11_isNode_20 : decode cX11_isNode 20 = .ok (.ireturn, 1) := by decide +kernel
set_option maxRecDepth 20000 in
theorem rX11_isNode {a1 : Int32} {I : MI} {Q : Int32 → MI → Prop} (H : ((a1 < 0 → (Q 0 I)) ∧ (¬ a1 < 0 → (((I 24 0) ≤ a1 → (Q 0 I)) ∧ (¬ (I 24 0) ≤ a1 → (Q 1 I)))))) : Wi mX11_isNode [.ref 0, .int a1] I Q := by
  show WP mX11_isNode 286 Rf0 0 [some (.ref 0), some (.int a1)] [] I (qi Q)
  refine w_iload_n dX11_isNode_0 rfl rfl ?_
  refine w_if_lt (t := 19) dX11_isNode_1 (by decide) (fun h => ?_) (fun h => ?_)
  · replace H := H.1 h
    refine w_iconst (v := 0) dX11_isNode_19 (by decide) ?_
    exact w_zret dX11_isNode_20 rfl rfl ⟨_, rfl, H⟩
  · replace H := H.2 h
    refine w_iload_n dX11_isNode_4 rfl rfl ?_
    refine w_aload_n dX11_isNode_5 rfl rfl ?_
    refine w_getR dX11_isNode_6 fl_11_28 okC11 kd_0 (by decide) (by decide) rfl rf_0_2 ?_
    refine w_getI dX11_isNode_9 fl_11_130 okC6 kd_24 (by decide) (by decide) rfl ?_
    refine w_icmp_ge (t := 19) dX11_isNode_12 (by decide) (fun h => ?_) (fun h => ?_)
    · replace H := H.1 h
      refine w_iconst (v := 0) dX11_isNode_19 (by decide) ?_
      exact w_zret dX11_isNode_20 rfl rfl ⟨_, rfl, H⟩
    · replace H := H.2 h
      refine w_iconst (v := 1) dX11_isNode_15 (by decide) ?_
      refine w_goto (t := 20) dX11_isNode_16 (by decide) ?_
      exact w_zret dX11_isNode_20 rfl rfl ⟨_, rfl, H⟩
theorem dX11_isVisit_0 : decode cX11_isVisit 0 = .ok (.iload_n 1, 1) := by decide +kernel
theorem dX11_isVisit_1 : decode cX11_isVisit 1 = .ok (.ifCond .lt 21, 3) := by decide +kernel
theorem dX11_isVisit_4 : decode cX11_isVisit 4 = .ok (.iload_n 1, 1) := by decide +kernel
theorem dX11_isVisit_5 : decode cX11_isVisit 5 = .ok (.aload_n 0, 1) := by decide +kernel
theorem dX11_isVisit_6 : decode cX11_isVisit 6 = .ok (.getfield 35, 3) := by decide +kernel
theorem dX11_isVisit_9 : decode cX11_isVisit 9 = .ok (.getfield 235, 3) := by decide +kernel
theorem dX11_isVisit_12 : decode cX11_isVisit 12 = .ok (.getfield 236, 3) := by decide +kernel
theorem dX11_isVisit_15 : decode cX11_isVisit 15 = .ok (.if_icmp .ge 7, 3) := by decide +kernel
theorem dX11_isVisit_18 : decode cX11_isVisit 18 = .ok (.iconst 1, 1) := by decide +kernel
theorem dX11_isVisit_19 : decode cX11_isVisit 19 = .ok (.goto 4, 3) := by decide +kernel
theorem dX11_isVisit_22 : decode cX11_isVisit 22 = .ok (.iconst 0, 1) := by decide +kernel
theorem dX11_isVisit_23 : decode cX11_isVisit 23 = .ok (.ireturn, 1) := by decide +kernel
set_option maxRecDepth 20000 in
theorem rX11_isVisit {a1 : Int32} {I : MI} {Q : Int32 → MI → Prop} (H : ((a1 < 0 → (Q 0 I)) ∧ (¬ a1 < 0 → (((I 40 1) ≤ a1 → (Q 0 I)) ∧ (¬ (I 40 1) ≤ a1 → (Q 1 I)))))) : Wi mX11_isVisit [.ref 0, .int a1] I Q := by
  show WP mX11_isVisit 286 Rf0 0 [some (.ref 0), some (.int a1)] [] I (qi Q)
  refine w_iload_n dX11_isVisit_0 rfl rfl ?_
  refine w_if_lt (t := 22) dX11_isVisit_1 (by decide) (fun h => ?_) (fun h => ?_)
  · replace H := H.1 h
    refine w_iconst (v := 0) dX11_isVisit_22 (by decide) ?_
    exact w_zret dX11_isVisit_23 rfl rfl ⟨_, rfl, H⟩
  · replace H := H.2 h
    refine w_iload_n dX11_isVisit_4 rfl rfl ?_
    refine w_aload_n dX11_isVisit_5 rfl rfl ?_
    refine w_getR dX11_isVisit_6 fl_11_35 okC11 kd_0 (by decide) (by decide) rfl rf_0_3 ?_
    refine w_getR dX11_isVisit_9 fl_11_235 okC8 kd_30 (by decide) (by decide) rfl rf_30_11 ?_
    refine w_getI dX11_isVisit_12 fl_11_236 okC3 kd_40 (by decide) (by decide) rfl ?_
    refine w_icmp_ge (t := 22) dX11_isVisit_15 (by decide) (fun h => ?_) (fun h => ?_)
    · replace H := H.1 h
      refine w_iconst (v := 0) dX11_isVisit_22 (by decide) ?_
      exact w_zret dX11_isVisit_23 rfl rfl ⟨_, rfl, H⟩
    · replace H := H.2 h
      refine w_iconst (v := 1) dX11_isVisit_18 (by decide) ?_
      refine w_goto (t := 23) dX11_isVisit_19 (by decide) ?_
      exact w_zret dX11_isVisit_23 rfl rfl ⟨_, rfl, H⟩
theorem dX11_isWeekday_0 : decode cX11_isWeekday 0 = .ok (.iload_n 0, 1) := by decide +kernel
theorem dX11_isWeekday_1 : decode cX11_isWeekday 1 = .ok (.ifCond .lt 13, 3) := by decide +kernel
theorem dX11_isWeekday_4 : decode cX11_isWeekday 4 = .ok (.iload_n 0, 1) := by decide +kernel
theorem dX11_isWeekday_5 : decode cX11_isWeekday 5 = .ok (.bipush 7, 2) := by decide +kernel
theorem dX11_isWeekday_7 : decode cX11_isWeekday 7 = .ok (.if_icmp .ge 7, 3) := by decide +kernel
theorem dX11_isWeekday_10 : decode cX11_isWeekday 10 = .ok (.iconst 1, 1) := by decide +kernel
theorem dX11_isWeekday_11 : decode cX11_isWeekday 11 = .ok (.goto 4, 3) := by decide +kernel
theorem dX11_isWeekday_14 : decode cX11_isWeekday 14 = .ok (.iconst 0, 1) := by decide +kernel
theorem dX11_isWeekday_15 : decode cX11_isWeekday 15 = .ok (.ireturn, 1) := by decide +kernel
set_option maxRecDepth 20000 in
theorem rX11_isWeekday {a1 : Int32} {I : MI} {Q : Int32 → MI → Prop} (H : ((a1 < 0 → (Q 0 I)) ∧ (¬ a1 < 0 → ((7 ≤ a1 → (Q 0 I)) ∧ (¬ 7 ≤ a1 → (Q 1 I)))))) : Wi mX11_isWeekday [.int a1] I Q := by
  show WP mX11_isWeekday 286 Rf0 0 [some (.int a1)] [] I (qi Q)
  refine w_iload_n dX11_isWeekday_0 rfl rfl ?_
  refine w_if_lt (t := 14) dX11_isWeekday_1 (by decide) (fun h => ?_) (fun h => ?_)
  · replace H := H.1 h
    refine w_iconst (v := 0) dX11_isWeekday_14 (by decide) ?_
    exact w_zret dX11_isWeekday_15 rfl rfl ⟨_, rfl, H⟩
  · replace H := H.2 h
    refine w_iload_n dX11_isWeekday_4 rfl rfl ?_
    refine w_bipush (v := 7) dX11_isWeekday_5 (by decide) ?_
    refine w_icmp_ge (t := 14) dX11_isWeekday_7 (by decide) (fun h => ?_) (fun h => ?_)
    · replace H := H.1 h
      refine w_iconst (v := 0) dX11_isWeekday_14 (by decide) ?_
      exact w_zret dX11_isWeekday_15 rfl rfl ⟨_, rfl, H⟩
    · replace H := H.2 h
      refine w_iconst (v := 1) dX11_isWeekday_10 (by decide) ?_
      refine w_goto (t := 15) dX11_isWeekday_11 (by decide) ?_
      exact w_zret dX11_isWeekday_15 rfl rfl ⟨_, rfl, H⟩
theorem dX11_isChoice_0 : decode cX11_isChoice 0 = .ok (.iload_n 0, 1) := by decide +kernel
theorem dX11_isChoice_1 : decode cX11_isChoice 1 = .ok (.ifCond .eq 13, 3) := by decide +kernel
theorem dX11_isChoice_4 : decode cX11_isChoice 4 = .ok (.iload_n 0, 1) := by decide +kernel
theorem dX11_isChoice_5 : decode cX11_isChoice 5 = .ok (.iconst 1, 1) := by decide +kernel
theorem dX11_isChoice_6 : decode cX11_isChoice 6 = .ok (.if_icmp .eq 8, 3) := by decide +kernel
theorem dX11_isChoice_9 : decode cX11_isChoice 9 = .ok (.iload_n 0, 1) := by decide +kernel
theorem dX11_isChoice_10 : decode cX11_isChoice 10 = .ok (.iconst 2, 1) := by decide +kernel
theorem dX11_isChoice_11 : decode cX11_isChoice 11 = .ok (.if_icmp .ne 7, 3) := by decide +kernel
theorem dX11_isChoice_14 : decode cX11_isChoice 14 = .ok (.iconst 1, 1) := by decide +kernel
theorem dX11_isChoice_15 : decode cX11_isChoice 15 = .ok (.goto 4, 3) := by decide +kernel
theorem dX11_isChoice_18 : decode cX11_isChoice 18 = .ok (.iconst 0, 1) := by decide +kernel
theorem dX11_isChoice_19 : decode cX11_isChoice 19 = .ok (.ireturn, 1) := by decide +kernel
abbrev LX11_isChoice_14 (l0 : Int32) (I : MI) (Q : Int32 → MI → Prop) : Prop := WP mX11_isChoice 286 Rf0 14 [some (.int l0)] [] I (qi Q)
set_option maxRecDepth 20000 in
theorem rX11_isChoice_14 {l0 : Int32} {I : MI} {Q : Int32 → MI → Prop} (H : (Q 1 I)) : LX11_isChoice_14 l0 I Q := by
  show WP mX11_isChoice 286 Rf0 14 [some (.int l0)] [] I (qi Q)
  refine w_iconst (v := 1) dX11_isChoice_14 (by decide) ?_
  refine w_goto (t := 19) dX11_isChoice_15 (by decide) ?_
  exact w_zret dX11_isChoice_19 rfl rfl ⟨_, rfl, H⟩
set_option maxRecDepth 20000 in
theorem rX11_isChoice {a1 : Int32} {I : MI} {Q : Int32 → MI → Prop} (H : ((a1 = 0 → (LX11_isChoice_14 a1 I Q)) ∧ (¬ a1 = 0 → ((a1 = 1 → (LX11_isChoice_14 a1 I Q)) ∧ (¬ a1 = 1 → ((¬ a1 = 2 → (Q 0 I)) ∧ (a1 = 2 → (LX11_isChoice_14 a1 I Q)))))))) : Wi mX11_isChoice [.int a1] I Q := by
  show WP mX11_isChoice 286 Rf0 0 [some (.int a1)] [] I (qi Q)
  refine w_iload_n dX11_isChoice_0 rfl rfl ?_
  refine w_if_eq (t := 14) dX11_isChoice_1 (by decide) (fun h => ?_) (fun h => ?_)
  · replace H := H.1 h
    skip
    exact H
  · replace H := H.2 h
    refine w_iload_n dX11_isChoice_4 rfl rfl ?_
    refine w_iconst (v := 1) dX11_isChoice_5 (by decide) ?_
    refine w_icmp_eq (t := 14) dX11_isChoice_6 (by decide) (fun h => ?_) (fun h => ?_)
    · replace H := H.1 h
      skip
      exact H
    · replace H := H.2 h
      refine w_iload_n dX11_isChoice_9 rfl rfl ?_
      refine w_iconst (v := 2) dX11_isChoice_10 (by decide) ?_
      refine w_icmp_ne (t := 18) dX11_isChoice_11 (by decide) (fun h => ?_) (fun h => ?_)
      · replace H := H.1 h
        refine w_iconst (v := 0) dX11_isChoice_18 (by decide) ?_
        exact w_zret dX11_isChoice_19 rfl rfl ⟨_, rfl, H⟩
      · replace H := H.2 h
        skip
        exact H
theorem dX11_isSlot_0 : decode cX11_isSlot 0 = .ok (.iload_n 0, 1) := by decide +kernel
theorem dX11_isSlot_1 : decode cX11_isSlot 1 = .ok (.ifCond .lt 12, 3) := by decide +kernel
theorem dX11_isSlot_4 : decode cX11_isSlot 4 = .ok (.iload_n 0, 1) := by decide +kernel
theorem dX11_isSlot_5 : decode cX11_isSlot 5 = .ok (.iconst 2, 1) := by decide +kernel
theorem dX11_isSlot_6 : decode cX11_isSlot 6 = .ok (.if_icmp .ge 7, 3) := by decide +kernel
theorem dX11_isSlot_9 : decode cX11_isSlot 9 = .ok (.iconst 1, 1) := by decide +kernel
theorem dX11_isSlot_10 : decode cX11_isSlot 10 = .ok (.goto 4, 3) := by decide +kernel
theorem dX11_isSlot_13 : decode cX11_isSlot 13 = .ok (.iconst 0, 1) := by decide +kernel
theorem dX11_isSlot_14 : decode cX11_isSlot 14 = .ok (.ireturn, 1) := by decide +kernel
set_option maxRecDepth 20000 in
theorem rX11_isSlot {a1 : Int32} {I : MI} {Q : Int32 → MI → Prop} (H : ((a1 < 0 → (Q 0 I)) ∧ (¬ a1 < 0 → ((2 ≤ a1 → (Q 0 I)) ∧ (¬ 2 ≤ a1 → (Q 1 I)))))) : Wi mX11_isSlot [.int a1] I Q := by
  show WP mX11_isSlot 286 Rf0 0 [some (.int a1)] [] I (qi Q)
  refine w_iload_n dX11_isSlot_0 rfl rfl ?_
  refine w_if_lt (t := 13) dX11_isSlot_1 (by decide) (fun h => ?_) (fun h => ?_)
  · replace H := H.1 h
    refine w_iconst (v := 0) dX11_isSlot_13 (by decide) ?_
    exact w_zret dX11_isSlot_14 rfl rfl ⟨_, rfl, H⟩
  · replace H := H.2 h
    refine w_iload_n dX11_isSlot_4 rfl rfl ?_
    refine w_iconst (v := 2) dX11_isSlot_5 (by decide) ?_
    refine w_icmp_ge (t := 13) dX11_isSlot_6 (by decide) (fun h => ?_) (fun h => ?_)
    · replace H := H.1 h
      refine w_iconst (v := 0) dX11_isSlot_13 (by decide) ?_
      exact w_zret dX11_isSlot_14 rfl rfl ⟨_, rfl, H⟩
    · replace H := H.2 h
      refine w_iconst (v := 1) dX11_isSlot_9 (by decide) ?_
      refine w_goto (t := 14) dX11_isSlot_10 (by decide) ?_
      exact w_zret dX11_isSlot_14 rfl rfl ⟨_, rfl, H⟩
theorem dX11_emptySlots_0 : decode cX11_emptySlots 0 = .ok (.iconst 0, 1) := by decide +kernel
theorem dX11_emptySlots_1 : decode cX11_emptySlots 1 = .ok (.istore_n 1, 1) := by decide +kernel
theorem dX11_emptySlots_2 : decode cX11_emptySlots 2 = .ok (.iload_n 1, 1) := by decide +kernel
theorem dX11_emptySlots_3 : decode cX11_emptySlots 3 = .ok (.iconst 2, 1) := by decide +kernel
theorem dX11_emptySlots_4 : decode cX11_emptySlots 4 = .ok (.if_icmp .ge 16, 3) := by decide +kernel
theorem dX11_emptySlots_7 : decode cX11_emptySlots 7 = .ok (.aload_n 0, 1) := by decide +kernel
theorem dX11_emptySlots_8 : decode cX11_emptySlots 8 = .ok (.getfield 91, 3) := by decide +kernel
theorem dX11_emptySlots_11 : decode cX11_emptySlots 11 = .ok (.iload_n 1, 1) := by decide +kernel
theorem dX11_emptySlots_12 : decode cX11_emptySlots 12 = .ok (.iconst 0, 1) := by decide +kernel
theorem dX11_emptySlots_13 : decode cX11_emptySlots 13 = .ok (.bastore, 1) := by decide +kernel
theorem dX11_emptySlots_14 : decode cX11_emptySlots 14 = .ok (.iinc 1 1, 3) := by decide +kernel
theorem dX11_emptySlots_17 : decode cX11_emptySlots 17 = .ok (.goto (-15), 3) := by decide +kernel
theorem dX11_emptySlots_20 : decode cX11_emptySlots 20 = .ok (.return_, 1) := by decide +kernel
abbrev LX11_emptySlots_2 (l1 : Int32) (I : MI) (Q : MI → Prop) : Prop := WP mX11_emptySlots 286 Rf0 2 [some (.ref 0), some (.int l1)] [] I (qv Q)
set_option maxRecDepth 20000 in
theorem rX11_emptySlots_2 {l1 : Int32} {I : MI} {Q : MI → Prop} (H : ((2 ≤ l1 → (Q I)) ∧ (¬ 2 ≤ l1 → (vp_in l1 2 ∧ ∀ I1 : MI, I1 = up2 I 260 l1.toNatClampNeg (vp_nar .boolean 0) → LX11_emptySlots_2 (l1 + 1) I1 Q)))) : LX11_emptySlots_2 l1 I Q := by
  show WP mX11_emptySlots 286 Rf0 2 [some (.ref 0), some (.int l1)] [] I (qv Q)
  refine w_iload_n dX11_emptySlots_2 rfl rfl ?_
  refine w_iconst (v := 2) dX11_emptySlots_3 (by decide) ?_
  refine w_icmp_ge (t := 20) dX11_emptySlots_4 (by decide) (fun h => ?_) (fun h => ?_)
  · replace H := H.1 h
    exact w_vret dX11_emptySlots_20 rfl ⟨rfl, H⟩
  · replace H := H.2 h
    refine w_aload_n dX11_emptySlots_7 rfl rfl ?_
    refine w_getR dX11_emptySlots_8 fl_11_91 okC11 kd_0 (by decide) (by decide) rfl rf_0_11 ?_
    refine w_iload_n dX11_emptySlots_11 rfl rfl ?_
    refine w_iconst (v := 0) dX11_emptySlots_12 (by decide) ?_
    refine w_zast dX11_emptySlots_13 kd_260 (by decide) H.1 (w_up fun I1 hI => ?_)
    replace H := H.2 I1 hI
    refine w_iinc (v := l1 + 1) (ls' := [some (.ref 0), some (.int (l1 + 1))]) dX11_emptySlots_14 rfl rfl (by decide) rfl rfl ?_
    refine w_goto (t := 2) dX11_emptySlots_17 (by decide) ?_
    skip
    exact H
set_option maxRecDepth 20000 in
theorem rX11_emptySlots {I : MI} {Q : MI → Prop} (H : (LX11_emptySlots_2 0 I Q)) : Wv mX11_emptySlots [.ref 0] I Q := by
  show WP mX11_emptySlots 286 Rf0 0 [some (.ref 0), none] [] I (qv Q)
  refine w_iconst (v := 0) dX11_emptySlots_0 (by decide) ?_
  refine w_istore_n (ls' := [some (.ref 0), some (.int 0)]) dX11_emptySlots_1 rfl (by decide) rfl rfl ?_
  skip
  exact H
theorem dX11_beginChange_0 : decode cX11_beginChange 0 = .ok (.aload_n 0, 1) := by decide +kernel
theorem dX11_beginChange_1 : decode cX11_beginChange 1 = .ok (.getfield 83, 3) := by decide +kernel
theorem dX11_beginChange_4 : decode cX11_beginChange 4 = .ok (.aload_n 0, 1) := by decide +kernel
theorem dX11_beginChange_5 : decode cX11_beginChange 5 = .ok (.getfield 35, 3) := by decide +kernel
theorem dX11_beginChange_8 : decode cX11_beginChange 8 = .ok (.invokevirtual 280, 3) := by decide +kernel
theorem dX11_beginChange_11 : decode cX11_beginChange 11 = .ok (.aload_n 0, 1) := by decide +kernel
theorem dX11_beginChange_12 : decode cX11_beginChange 12 = .ok (.getfield 67, 3) := by decide +kernel
theorem dX11_beginChange_15 : decode cX11_beginChange 15 = .ok (.invokevirtual 124, 3) := by decide +kernel
theorem dX11_beginChange_18 : decode cX11_beginChange 18 = .ok (.return_, 1) := by decide +kernel
set_option maxRecDepth 20000 in
theorem rX11_beginChange {I : MI} {Q : MI → Prop} (H : (Wv mX2_remember [.ref 61, .ref 30] I (fun I1 => (Wv mX1_forget [.ref 50] I1 (fun I2 => (Q I2)))))) : Wv mX11_beginChange [.ref 0] I Q := by
  show WP mX11_beginChange 286 Rf0 0 [some (.ref 0)] [] I (qv Q)
  refine w_aload_n dX11_beginChange_0 rfl rfl ?_
  refine w_getR dX11_beginChange_1 fl_11_83 okC11 kd_0 (by decide) (by decide) rfl rf_0_9 ?_
  refine w_aload_n dX11_beginChange_4 rfl rfl ?_
  refine w_getR dX11_beginChange_5 fl_11_35 okC11 kd_0 (by decide) (by decide) rfl rf_0_3 ?_
  refine w_callV (st := []) (As := [.ref 30]) dX11_beginChange_8 ml_11_280 okX2_remember kd_61 (by decide) rfl rfl rfl (Nat.le_of_ble_eq_true rfl) (by decide) (Nat.le_of_ble_eq_true rfl) (wc_v H (fun I1 H => ?_))
  refine w_aload_n dX11_beginChange_11 rfl rfl ?_
  refine w_getR dX11_beginChange_12 fl_11_67 okC11 kd_0 (by decide) (by decide) rfl rf_0_7 ?_
  refine w_callV (st := []) (As := []) dX11_beginChange_15 ml_11_124 okX1_forget kd_50 (by decide) rfl rfl rfl (Nat.le_of_ble_eq_true rfl) (by decide) (Nat.le_of_ble_eq_true rfl) (wc_v H (fun I2 H => ?_))
  exact w_vret dX11_beginChange_18 rfl ⟨rfl, H⟩
theorem dX11_chooseRoute_0 : decode cX11_chooseRoute 0 = .ok (.iload_n 1, 1) := by decide +kernel
theorem dX11_chooseRoute_1 : decode cX11_chooseRoute 1 = .ok (.iconst 2, 1) := by decide +kernel
theorem dX11_chooseRoute_2 : decode cX11_chooseRoute 2 = .ok (.if_icmp .ne 42, 3) := by decide +kernel
theorem dX11_chooseRoute_5 : decode cX11_chooseRoute 5 = .ok (.aload_n 0, 1) := by decide +kernel
theorem dX11_chooseRoute_6 : decode cX11_chooseRoute 6 = .ok (.getfield 67, 3) := by decide +kernel
theorem dX11_chooseRoute_9 : decode cX11_chooseRoute 9 = .ok (.invokevirtual 193, 3) := by decide +kernel
theorem dX11_chooseRoute_12 : decode cX11_chooseRoute 12 = .ok (.aload_n 0, 1) := by decide +kernel
theorem dX11_chooseRoute_13 : decode cX11_chooseRoute 13 = .ok (.getfield 58, 3) := by decide +kernel
theorem dX11_chooseRoute_16 : decode cX11_chooseRoute 16 = .ok (.aload_n 0, 1) := by decide +kernel
theorem dX11_chooseRoute_17 : decode cX11_chooseRoute 17 = .ok (.getfield 67, 3) := by decide +kernel
theorem dX11_chooseRoute_20 : decode cX11_chooseRoute 20 = .ok (.getfield 199, 3) := by decide +kernel
theorem dX11_chooseRoute_23 : decode cX11_chooseRoute 23 = .ok (.invokevirtual 283, 3) := by decide +kernel
theorem dX11_chooseRoute_26 : decode cX11_chooseRoute 26 = .ok (.aload_n 0, 1) := by decide +kernel
theorem dX11_chooseRoute_27 : decode cX11_chooseRoute 27 = .ok (.getfield 67, 3) := by decide +kernel
theorem dX11_chooseRoute_30 : decode cX11_chooseRoute 30 = .ok (.getfield 196, 3) := by decide +kernel
theorem dX11_chooseRoute_33 : decode cX11_chooseRoute 33 = .ok (.ldc 172, 2) := by decide +kernel
theorem dX11_chooseRoute_35 : decode cX11_chooseRoute 35 = .ok (.if_icmp .eq 7, 3) := by decide +kernel
theorem dX11_chooseRoute_38 : decode cX11_chooseRoute 38 = .ok (.iconst 1, 1) := by decide +kernel
theorem dX11_chooseRoute_39 : decode cX11_chooseRoute 39 = .ok (.goto 4, 3) := by decide +kernel
theorem dX11_chooseRoute_42 : decode cX11_chooseRoute 42 = .ok (.iconst 0, 1) := by decide +kernel
theorem dX11_chooseRoute_43 : decode cX11_chooseRoute 43 = .ok (.ireturn, 1) := by decide +kernel
theorem dX11_chooseRoute_44 : decode cX11_chooseRoute 44 = .ok (.iload_n 1, 1) := by decide +kernel
theorem dX11_chooseRoute_45 : decode cX11_chooseRoute 45 = .ok (.iconst 1, 1) := by decide +kernel
theorem dX11_chooseRoute_46 : decode cX11_chooseRoute 46 = .ok (.if_icmp .ne 10, 3) := by decide +kernel
theorem dX11_chooseRoute_49 : decode cX11_chooseRoute 49 = .ok (.aload_n 0, 1) := by decide +kernel
theorem dX11_chooseRoute_50 : decode cX11_chooseRoute 50 = .ok (.invokevirtual 187, 3) := by decide +kernel
theorem dX11_chooseRoute_53 : decode cX11_chooseRoute 53 = .ok (.goto 17, 3) := by decide +kernel
theorem dX11_chooseRoute_56 : decode cX11_chooseRoute 56 = .ok (.aload_n 0, 1) := by decide +kernel
theorem dX11_chooseRoute_57 : decode cX11_chooseRoute 57 = .ok (.getfield 58, 3) := by decide +kernel
theorem dX11_chooseRoute_60 : decode cX11_chooseRoute 60 = .ok (.aload_n 0, 1) := by decide +kernel
theorem dX11_chooseRoute_61 : decode cX11_chooseRoute 61 = .ok (.getfield 44, 3) := by decide +kernel
theorem dX11_chooseRoute_64 : decode cX11_chooseRoute 64 = .ok (.invokevirtual 181, 3) := by decide +kernel
theorem dX11_chooseRoute_67 : decode cX11_chooseRoute 67 = .ok (.invokevirtual 285, 3) := by decide +kernel
theorem dX11_chooseRoute_70 : decode cX11_chooseRoute 70 = .ok (.iconst 1, 1) := by decide +kernel
theorem dX11_chooseRoute_71 : decode cX11_chooseRoute 71 = .ok (.ireturn, 1) := by decide +kernel
set_option maxRecDepth 20000 in
theorem rX11_chooseRoute {a1 : Int32} {I : MI} {Q : Int32 → MI → Prop} (H : ((¬ a1 = 2 → ((¬ a1 = 1 → (Wi mX10_stopSet [.ref 44] I (fun r2 I1 => (Wv mX7_fillByNumber [.ref 48, .int r2] I1 (fun I3 => (Q 1 I3)))))) ∧ (a1 = 1 → (Wv mX11_chooseByHabit [.ref 0] I (fun I1 => (Q 1 I1)))))) ∧ (a1 = 2 → (Wv mX1_find [.ref 50] I (fun I1 => (Wv mX7_copyFrom [.ref 48, .ref 51] I1 (fun I2 => (((I2 50 8) = 2147483647 → (Q 0 I2)) ∧ (¬ (I2 50 8) = 2147483647 → (Q 1 I2)))))))))) : Wi mX11_chooseRoute [.ref 0, .int a1] I Q := by
  show WP mX11_chooseRoute 286 Rf0 0 [some (.ref 0), some (.int a1)] [] I (qi Q)
  refine w_iload_n dX11_chooseRoute_0 rfl rfl ?_
  refine w_iconst (v := 2) dX11_chooseRoute_1 (by decide) ?_
  refine w_icmp_ne (t := 44) dX11_chooseRoute_2 (by decide) (fun h => ?_) (fun h => ?_)
  · replace H := H.1 h
    refine w_iload_n dX11_chooseRoute_44 rfl rfl ?_
    refine w_iconst (v := 1) dX11_chooseRoute_45 (by decide) ?_
    refine w_icmp_ne (t := 56) dX11_chooseRoute_46 (by decide) (fun h => ?_) (fun h => ?_)
    · replace H := H.1 h
      refine w_aload_n dX11_chooseRoute_56 rfl rfl ?_
      refine w_getR dX11_chooseRoute_57 fl_11_58 okC11 kd_0 (by decide) (by decide) rfl rf_0_6 ?_
      refine w_aload_n dX11_chooseRoute_60 rfl rfl ?_
      refine w_getR dX11_chooseRoute_61 fl_11_44 okC11 kd_0 (by decide) (by decide) rfl rf_0_4 ?_
      refine w_callV (st := [.ref 48]) (As := []) dX11_chooseRoute_64 ml_11_181 okX10_stopSet kd_44 (by decide) rfl rfl rfl (Nat.le_of_ble_eq_true rfl) (by decide) (Nat.le_of_ble_eq_true rfl) (wc_i H (fun r2 I1 H => ?_))
      refine w_callV (st := []) (As := [.int r2]) dX11_chooseRoute_67 ml_11_285 okX7_fillByNumber kd_48 (by decide) rfl rfl rfl (Nat.le_of_ble_eq_true rfl) (by decide) (Nat.le_of_ble_eq_true rfl) (wc_v H (fun I3 H => ?_))
      refine w_iconst (v := 1) dX11_chooseRoute_70 (by decide) ?_
      exact w_zret dX11_chooseRoute_71 rfl rfl ⟨_, rfl, H⟩
    · replace H := H.2 h
      refine w_aload_n dX11_chooseRoute_49 rfl rfl ?_
      refine w_callV (st := []) (As := []) dX11_chooseRoute_50 ml_11_187 okX11_chooseByHabit kd_0 (by decide) rfl rfl rfl (Nat.le_of_ble_eq_true rfl) (by decide) (Nat.le_of_ble_eq_true rfl) (wc_v H (fun I1 H => ?_))
      refine w_goto (t := 70) dX11_chooseRoute_53 (by decide) ?_
      refine w_iconst (v := 1) dX11_chooseRoute_70 (by decide) ?_
      exact w_zret dX11_chooseRoute_71 rfl rfl ⟨_, rfl, H⟩
  · replace H := H.2 h
    refine w_aload_n dX11_chooseRoute_5 rfl rfl ?_
    refine w_getR dX11_chooseRoute_6 fl_11_67 okC11 kd_0 (by decide) (by decide) rfl rf_0_7 ?_
    refine w_callV (st := []) (As := []) dX11_chooseRoute_9 ml_11_193 okX1_find kd_50 (by decide) rfl rfl rfl (Nat.le_of_ble_eq_true rfl) (by decide) (Nat.le_of_ble_eq_true rfl) (wc_v H (fun I1 H => ?_))
    refine w_aload_n dX11_chooseRoute_12 rfl rfl ?_
    refine w_getR dX11_chooseRoute_13 fl_11_58 okC11 kd_0 (by decide) (by decide) rfl rf_0_6 ?_
    refine w_aload_n dX11_chooseRoute_16 rfl rfl ?_
    refine w_getR dX11_chooseRoute_17 fl_11_67 okC11 kd_0 (by decide) (by decide) rfl rf_0_7 ?_
    refine w_getR dX11_chooseRoute_20 fl_11_199 okC1 kd_50 (by decide) (by decide) rfl rf_50_3 ?_
    refine w_callV (st := []) (As := [.ref 51]) dX11_chooseRoute_23 ml_11_283 okX7_copyFrom kd_48 (by decide) rfl rfl rfl (Nat.le_of_ble_eq_true rfl) (by decide) (Nat.le_of_ble_eq_true rfl) (wc_v H (fun I2 H => ?_))
    refine w_aload_n dX11_chooseRoute_26 rfl rfl ?_
    refine w_getR dX11_chooseRoute_27 fl_11_67 okC11 kd_0 (by decide) (by decide) rfl rf_0_7 ?_
    refine w_getI dX11_chooseRoute_30 fl_11_196 okC1 kd_50 (by decide) (by decide) rfl ?_
    refine w_ldc (v := 2147483647) dX11_chooseRoute_33 kl_11_172 ?_
    refine w_icmp_eq (t := 42) dX11_chooseRoute_35 (by decide) (fun h => ?_) (fun h => ?_)
    · replace H := H.1 h
      refine w_iconst (v := 0) dX11_chooseRoute_42 (by decide) ?_
      exact w_zret dX11_chooseRoute_43 rfl rfl ⟨_, rfl, H⟩
    · replace H := H.2 h
      refine w_iconst (v := 1) dX11_chooseRoute_38 (by decide) ?_
      refine w_goto (t := 43) dX11_chooseRoute_39 (by decide) ?_
      exact w_zret dX11_chooseRoute_43 rfl rfl ⟨_, rfl, H⟩
theorem dX11_chooseByHabit_0 : decode cX11_chooseByHabit 0 = .ok (.aload_n 0, 1) := by decide +kernel
theorem dX11_chooseByHabit_1 : decode cX11_chooseByHabit 1 = .ok (.getfield 58, 3) := by decide +kernel
theorem dX11_chooseByHabit_4 : decode cX11_chooseByHabit 4 = .ok (.invokevirtual 288, 3) := by decide +kernel
theorem dX11_chooseByHabit_7 : decode cX11_chooseByHabit 7 = .ok (.aload_n 0, 1) := by decide +kernel
theorem dX11_chooseByHabit_8 : decode cX11_chooseByHabit 8 = .ok (.getfield 44, 3) := by decide +kernel
theorem dX11_chooseByHabit_11 : decode cX11_chooseByHabit 11 = .ok (.invokevirtual 181, 3) := by decide +kernel
theorem dX11_chooseByHabit_14 : decode cX11_chooseByHabit 14 = .ok (.istore_n 1, 1) := by decide +kernel
theorem dX11_chooseByHabit_15 : decode cX11_chooseByHabit 15 = .ok (.iconst 0, 1) := by decide +kernel
theorem dX11_chooseByHabit_16 : decode cX11_chooseByHabit 16 = .ok (.istore_n 2, 1) := by decide +kernel
theorem dX11_chooseByHabit_17 : decode cX11_chooseByHabit 17 = .ok (.iconst 0, 1) := by decide +kernel
theorem dX11_chooseByHabit_18 : decode cX11_chooseByHabit 18 = .ok (.istore_n 3, 1) := by decide +kernel
theorem dX11_chooseByHabit_19 : decode cX11_chooseByHabit 19 = .ok (.iload_n 3, 1) := by decide +kernel
theorem dX11_chooseByHabit_20 : decode cX11_chooseByHabit 20 = .ok (.bipush 10, 2) := by decide +kernel
theorem dX11_chooseByHabit_22 : decode cX11_chooseByHabit 22 = .ok (.if_icmp .ge 36, 3) := by decide +kernel
theorem dX11_chooseByHabit_25 : decode cX11_chooseByHabit 25 = .ok (.iload_n 1, 1) := by decide +kernel
theorem dX11_chooseByHabit_26 : decode cX11_chooseByHabit 26 = .ok (.ifCond .eq 32, 3) := by decide +kernel
theorem dX11_chooseByHabit_29 : decode cX11_chooseByHabit 29 = .ok (.aload_n 0, 1) := by decide +kernel
theorem dX11_chooseByHabit_30 : decode cX11_chooseByHabit 30 = .ok (.iload_n 2, 1) := by decide +kernel
theorem dX11_chooseByHabit_31 : decode cX11_chooseByHabit 31 = .ok (.iload_n 1, 1) := by decide +kernel
theorem dX11_chooseByHabit_32 : decode cX11_chooseByHabit 32 = .ok (.invokevirtual 289, 3) := by decide +kernel
theorem dX11_chooseByHabit_35 : decode cX11_chooseByHabit 35 = .ok (.istore_n 2, 1) := by decide +kernel
theorem dX11_chooseByHabit_36 : decode cX11_chooseByHabit 36 = .ok (.aload_n 0, 1) := by decide +kernel
theorem dX11_chooseByHabit_37 : decode cX11_chooseByHabit 37 = .ok (.getfield 58, 3) := by decide +kernel
theorem dX11_chooseByHabit_40 : decode cX11_chooseByHabit 40 = .ok (.iload_n 2, 1) := by decide +kernel
theorem dX11_chooseByHabit_41 : decode cX11_chooseByHabit 41 = .ok (.invokevirtual 293, 3) := by decide +kernel
theorem dX11_chooseByHabit_44 : decode cX11_chooseByHabit 44 = .ok (.iload_n 1, 1) := by decide +kernel
theorem dX11_chooseByHabit_45 : decode cX11_chooseByHabit 45 = .ok (.iconst 1, 1) := by decide +kernel
theorem dX11_chooseByHabit_46 : decode cX11_chooseByHabit 46 = .ok (.iload_n 2, 1) := by decide +kernel
theorem dX11_chooseByHabit_47 : decode cX11_chooseByHabit 47 = .ok (.ishl, 1) := by decide +kernel
theorem dX11_chooseByHabit_48 : decode cX11_chooseByHabit 48 = .ok (.iconst (-1), 1) := by decide +kernel
theorem dX11_chooseByHabit_49 : decode cX11_chooseByHabit 49 = .ok (.ixor, 1) := by decide +kernel
theorem dX11_chooseByHabit_50 : decode cX11_chooseByHabit 50 = .ok (.iand, 1) := by decide +kernel
theorem dX11_chooseByHabit_51 : decode cX11_chooseByHabit 51 = .ok (.istore_n 1, 1) := by decide +kernel
theorem dX11_chooseByHabit_52 : decode cX11_chooseByHabit 52 = .ok (.iinc 3 1, 3) := by decide +kernel
theorem dX11_chooseByHabit_55 : decode cX11_chooseByHabit 55 = .ok (.goto (-36), 3) := by decide +kernel
theorem dX11_chooseByHabit_58 : decode cX11_chooseByHabit 58 = .ok (.return_, 1) := by decide +kernel
abbrev LX11_chooseByHabit_19 (l1 l2 l3 : Int32) (I : MI) (Q : MI → Prop) : Prop := WP mX11_chooseByHabit 286 Rf0 19 [some (.ref 0), some (.int l1), some (.int l2), some (.int l3)] [] I (qv Q)
set_option maxRecDepth 20000 in
theorem rX11_chooseByHabit_19 {l1 l2 l3 : Int32} {I : MI} {Q : MI → Prop} (H : ((10 ≤ l3 → (Q I)) ∧ (¬ 10 ≤ l3 → ((l1 = 0 → (Q I)) ∧ (¬ l1 = 0 → (Wi mX11_horseChoice [.ref 0, .int l2, .int l1] I (fun r2 I1 => (Wv mX7_add [.ref 48, .int r2] I1 (fun I3 => (LX11_chooseByHabit_19 (l1 &&& (((1 : Int32) <<< (r2 &&& 31)) ^^^ ((-1) : Int32))) r2 (l3 + 1) I3 Q)))))))))) : LX11_chooseByHabit_19 l1 l2 l3 I Q := by
  show WP mX11_chooseByHabit 286 Rf0 19 [some (.ref 0), some (.int l1), some (.int l2), some (.int l3)] [] I (qv Q)
  refine w_iload_n dX11_chooseByHabit_19 rfl rfl ?_
  refine w_bipush (v := 10) dX11_chooseByHabit_20 (by decide) ?_
  refine w_icmp_ge (t := 58) dX11_chooseByHabit_22 (by decide) (fun h => ?_) (fun h => ?_)
  · replace H := H.1 h
    exact w_vret dX11_chooseByHabit_58 rfl ⟨rfl, H⟩
  · replace H := H.2 h
    refine w_iload_n dX11_chooseByHabit_25 rfl rfl ?_
    refine w_if_eq (t := 58) dX11_chooseByHabit_26 (by decide) (fun h => ?_) (fun h => ?_)
    · replace H := H.1 h
      exact w_vret dX11_chooseByHabit_58 rfl ⟨rfl, H⟩
    · replace H := H.2 h
      refine w_aload_n dX11_chooseByHabit_29 rfl rfl ?_
      refine w_iload_n dX11_chooseByHabit_30 rfl rfl ?_
      refine w_iload_n dX11_chooseByHabit_31 rfl rfl ?_
      refine w_callV (st := []) (As := [.int l2, .int l1]) dX11_chooseByHabit_32 ml_11_289 okX11_horseChoice kd_0 (by decide) rfl rfl rfl (Nat.le_of_ble_eq_true rfl) (by decide) (Nat.le_of_ble_eq_true rfl) (wc_i H (fun r2 I1 H => ?_))
      refine w_istore_n (ls' := [some (.ref 0), some (.int l1), some (.int r2), some (.int l3)]) dX11_chooseByHabit_35 rfl (by decide) rfl rfl ?_
      refine w_aload_n dX11_chooseByHabit_36 rfl rfl ?_
      refine w_getR dX11_chooseByHabit_37 fl_11_58 okC11 kd_0 (by decide) (by decide) rfl rf_0_6 ?_
      refine w_iload_n dX11_chooseByHabit_40 rfl rfl ?_
      refine w_callV (st := []) (As := [.int r2]) dX11_chooseByHabit_41 ml_11_293 okX7_add kd_48 (by decide) rfl rfl rfl (Nat.le_of_ble_eq_true rfl) (by decide) (Nat.le_of_ble_eq_true rfl) (wc_v H (fun I3 H => ?_))
      refine w_iload_n dX11_chooseByHabit_44 rfl rfl ?_
      refine w_iconst (v := 1) dX11_chooseByHabit_45 (by decide) ?_
      refine w_iload_n dX11_chooseByHabit_46 rfl rfl ?_
      refine w_ishl dX11_chooseByHabit_47 ?_
      refine w_iconst (v := (-1)) dX11_chooseByHabit_48 (by decide) ?_
      refine w_ixor dX11_chooseByHabit_49 ?_
      refine w_iand dX11_chooseByHabit_50 ?_
      refine w_istore_n (ls' := [some (.ref 0), some (.int (l1 &&& (((1 : Int32) <<< (r2 &&& 31)) ^^^ ((-1) : Int32)))), some (.int r2), some (.int l3)]) dX11_chooseByHabit_51 rfl (by decide) rfl rfl ?_
      refine w_iinc (v := l3 + 1) (ls' := [some (.ref 0), some (.int (l1 &&& (((1 : Int32) <<< (r2 &&& 31)) ^^^ ((-1) : Int32)))), some (.int r2), some (.int (l3 + 1))]) dX11_chooseByHabit_52 rfl rfl (by decide) rfl rfl ?_
      refine w_goto (t := 19) dX11_chooseByHabit_55 (by decide) ?_
      skip
      exact H
set_option maxRecDepth 20000 in
theorem rX11_chooseByHabit {I : MI} {Q : MI → Prop} (H : (Wv mX7_clear [.ref 48] I (fun I1 => (Wi mX10_stopSet [.ref 44] I1 (fun r3 I2 => (LX11_chooseByHabit_19 r3 0 0 I2 Q)))))) : Wv mX11_chooseByHabit [.ref 0] I Q := by
  show WP mX11_chooseByHabit 286 Rf0 0 [some (.ref 0), none, none, none] [] I (qv Q)
  refine w_aload_n dX11_chooseByHabit_0 rfl rfl ?_
  refine w_getR dX11_chooseByHabit_1 fl_11_58 okC11 kd_0 (by decide) (by decide) rfl rf_0_6 ?_
  refine w_callV (st := []) (As := []) dX11_chooseByHabit_4 ml_11_288 okX7_clear kd_48 (by decide) rfl rfl rfl (Nat.le_of_ble_eq_true rfl) (by decide) (Nat.le_of_ble_eq_true rfl) (wc_v H (fun I1 H => ?_))
  refine w_aload_n dX11_chooseByHabit_7 rfl rfl ?_
  refine w_getR dX11_chooseByHabit_8 fl_11_44 okC11 kd_0 (by decide) (by decide) rfl rf_0_4 ?_
  refine w_callV (st := []) (As := []) dX11_chooseByHabit_11 ml_11_181 okX10_stopSet kd_44 (by decide) rfl rfl rfl (Nat.le_of_ble_eq_true rfl) (by decide) (Nat.le_of_ble_eq_true rfl) (wc_i H (fun r3 I2 H => ?_))
  refine w_istore_n (ls' := [some (.ref 0), some (.int r3), none, none]) dX11_chooseByHabit_14 rfl (by decide) rfl rfl ?_
  refine w_iconst (v := 0) dX11_chooseByHabit_15 (by decide) ?_
  refine w_istore_n (ls' := [some (.ref 0), some (.int r3), some (.int 0), none]) dX11_chooseByHabit_16 rfl (by decide) rfl rfl ?_
  refine w_iconst (v := 0) dX11_chooseByHabit_17 (by decide) ?_
  refine w_istore_n (ls' := [some (.ref 0), some (.int r3), some (.int 0), some (.int 0)]) dX11_chooseByHabit_18 rfl (by decide) rfl rfl ?_
  skip
  exact H
theorem dX11_horseChoice_0 : decode cX11_horseChoice 0 = .ok (.aload_n 0, 1) := by decide +kernel
theorem dX11_horseChoice_1 : decode cX11_horseChoice 1 = .ok (.getfield 51, 3) := by decide +kernel
theorem dX11_horseChoice_4 : decode cX11_horseChoice 4 = .ok (.iload_n 1, 1) := by decide +kernel
theorem dX11_horseChoice_5 : decode cX11_horseChoice 5 = .ok (.aload_n 0, 1) := by decide +kernel
theorem dX11_horseChoice_6 : decode cX11_horseChoice 6 = .ok (.getfield 28, 3) := by decide +kernel
theorem dX11_horseChoice_9 : decode cX11_horseChoice 9 = .ok (.getfield 296, 3) := by decide +kernel
theorem dX11_horseChoice_12 : decode cX11_horseChoice 12 = .ok (.invokevirtual 168, 3) := by decide +kernel
theorem dX11_horseChoice_15 : decode cX11_horseChoice 15 = .ok (.astore_n 3, 1) := by decide +kernel
theorem dX11_horseChoice_16 : decode cX11_horseChoice 16 = .ok (.iconst 0, 1) := by decide +kernel
theorem dX11_horseChoice_17 : decode cX11_horseChoice 17 = .ok (.istore 4, 2) := by decide +kernel
theorem dX11_horseChoice_19 : decode cX11_horseChoice 19 = .ok (.iconst 1, 1) := by decide +kernel
theorem dX11_horseChoice_20 : decode cX11_horseChoice 20 = .ok (.istore 5, 2) := by decide +kernel
theorem dX11_horseChoice_22 : decode cX11_horseChoice 22 = .ok (.iload 5, 2) := by decide +kernel
theorem dX11_horseChoice_24 : decode cX11_horseChoice 24 = .ok (.aload_n 0, 1) := by decide +kernel
theorem dX11_horseChoice_25 : decode cX11_horseChoice 25 = .ok (.getfield 28, 3) := by decide +kernel
theorem dX11_horseChoice_28 : decode cX11_horseChoice 28 = .ok (.getfield 130, 3) := by decide +kernel
theorem dX11_horseChoice_31 : decode cX11_horseChoice 31 = .ok (.if_icmp .ge 84, 3) := by decide +kernel
theorem dX11_horseChoice_34 : decode cX11_horseChoice 34 = .ok (.iload_n 2, 1) := by decide +kernel
theorem dX11_horseChoice_35 : decode cX11_horseChoice 35 = .ok (.iconst 1, 1) := by decide +kernel
theorem dX11_horseChoice_36 : decode cX11_horseChoice 36 = .ok (.iload 5, 2) := by decide +kernel
theorem dX11_horseChoice_38 : decode cX11_horseChoice 38 = .ok (.ishl, 1) := by decide +kernel
theorem dX11_horseChoice_39 : decode cX11_horseChoice 39 = .ok (.iand, 1) := by decide +kernel
theorem dX11_horseChoice_40 : decode cX11_horseChoice 40 = .ok (.ifCond .ne 6, 3) := by decide +kernel
theorem dX11_horseChoice_43 : decode cX11_horseChoice 43 = .ok (.goto 66, 3) := by decide +kernel
theorem dX11_horseChoice_46 : decode cX11_horseChoice 46 = .ok (.aload_n 0, 1) := by decide +kernel
theorem dX11_horseChoice_47 : decode cX11_horseChoice 47 = .ok (.getfield 35, 3) := by decide +kernel
theorem dX11_horseChoice_50 : decode cX11_horseChoice 50 = .ok (.getfield 184, 3) := by decide +kernel
theorem dX11_horseChoice_53 : decode cX11_horseChoice 53 = .ok (.iload_n 1, 1) := by decide +kernel
theorem dX11_horseChoice_54 : decode cX11_horseChoice 54 = .ok (.bipush 10, 2) := by decide +kernel
theorem dX11_horseChoice_56 : decode cX11_horseChoice 56 = .ok (.imul, 1) := by decide +kernel
theorem dX11_horseChoice_57 : decode cX11_horseChoice 57 = .ok (.iload 5, 2) := by decide +kernel
theorem dX11_horseChoice_59 : decode cX11_horseChoice 59 = .ok (.iadd, 1) := by decide +kernel
theorem dX11_horseChoice_60 : decode cX11_horseChoice 60 = .ok (.iaload, 1) := by decide +kernel
theorem dX11_horseChoice_61 : decode cX11_horseChoice 61 = .ok (.aload_n 0, 1) := by decide +kernel
theorem dX11_horseChoice_62 : decode cX11_horseChoice 62 = .ok (.getfield 35, 3) := by decide +kernel
theorem dX11_horseChoice_65 : decode cX11_horseChoice 65 = .ok (.getfield 184, 3) := by decide +kernel
theorem dX11_horseChoice_68 : decode cX11_horseChoice 68 = .ok (.iload_n 1, 1) := by decide +kernel
theorem dX11_horseChoice_69 : decode cX11_horseChoice 69 = .ok (.bipush 10, 2) := by decide +kernel
theorem dX11_horseChoice_71 : decode cX11_horseChoice 71 = .ok (.imul, 1) := by decide +kernel
theorem dX11_horseChoice_72 : decode cX11_horseChoice 72 = .ok (.iload 4, 2) := by decide +kernel
theorem dX11_horseChoice_74 : decode cX11_horseChoice 74 = .ok (.iadd, 1) := by decide +kernel
theorem dX11_horseChoice_75 : decode cX11_horseChoice 75 = .ok (.iaload, 1) := by decide +kernel
theorem dX11_horseChoice_76 : decode cX11_horseChoice 76 = .ok (.isub, 1) := by decide +kernel
theorem dX11_horseChoice_77 : decode cX11_horseChoice 77 = .ok (.istore 6, 2) := by decide +kernel
theorem dX11_horseChoice_79 : decode cX11_horseChoice 79 = .ok (.iload 4, 2) := by decide +kernel
theorem dX11_horseChoice_81 : decode cX11_horseChoice 81 = .ok (.ifCond .eq 24, 3) := by decide +kernel
theorem dX11_horseChoice_84 : decode cX11_horseChoice 84 = .ok (.iload 6, 2) := by decide +kernel
theorem dX11_horseChoice_86 : decode cX11_horseChoice 86 = .ok (.ifCond .gt 19, 3) := by decide +kernel
theorem dX11_horseChoice_89 : decode cX11_horseChoice 89 = .ok (.iload 6, 2) := by decide +kernel
theorem dX11_horseChoice_91 : decode cX11_horseChoice 91 = .ok (.ifCond .ne 18, 3) := by decide +kernel
theorem dX11_horseChoice_94 : decode cX11_horseChoice 94 = .ok (.aload_n 3, 1) := by decide +kernel
theorem dX11_horseChoice_95 : decode cX11_horseChoice 95 = .ok (.iload 5, 2) := by decide +kernel
theorem dX11_horseChoice_97 : decode cX11_horseChoice 97 = .ok (.iaload, 1) := by decide +kernel
theorem dX11_horseChoice_98 : decode cX11_horseChoice 98 = .ok (.aload_n 3, 1) := by decide +kernel
theorem dX11_horseChoice_99 : decode cX11_horseChoice 99 = .ok (.iload 4, 2) := by decide +kernel
theorem dX11_horseChoice_101 : decode cX11_horseChoice 101 = .ok (.iaload, 1) := by decide +kernel
theorem dX11_horseChoice_102 : decode cX11_horseChoice 102 = .ok (.if_icmp .ge 7, 3) := by decide +kernel
theorem dX11_horseChoice_105 : decode cX11_horseChoice 105 = .ok (.iload 5, 2) := by decide +kernel
theorem dX11_horseChoice_107 : decode cX11_horseChoice 107 = .ok (.istore 4, 2) := by decide +kernel
theorem dX11_horseChoice_109 : decode cX11_horseChoice 109 = .ok (.iinc 5 1, 3) := by decide +kernel
theorem dX11_horseChoice_112 : decode cX11_horseChoice 112 = .ok (.goto (-90), 3) := by decide +kernel
theorem dX11_horseChoice_115 : decode cX11_horseChoice 115 = .ok (.iload 4, 2) := by decide +kernel
theorem dX11_horseChoice_117 : decode cX11_horseChoice 117 = .ok (.ireturn, 1) := by decide +kernel
abbrev LX11_horseChoice_22 (l1 l2 l4 l5 : Int32) (I : MI) (Q : Int32 → MI → Prop) : Prop := WP mX11_horseChoice 286 Rf0 22 [some (.ref 0), some (.int l1), some (.int l2), some (.ref 46), some (.int l4), some (.int l5), none] [] I (qi Q)
abbrev LX11_horseChoice_105 (l1 l2 l4 l5 l6 : Int32) (I : MI) (Q : Int32 → MI → Prop) : Prop := WP mX11_horseChoice 286 Rf0 105 [some (.ref 0), some (.int l1), some (.int l2), some (.ref 46), some (.int l4), some (.int l5), some (.int l6)] [] I (qi Q)
abbrev LX11_horseChoice_109 (l1 l2 l4 l5 : Int32) (I : MI) (Q : Int32 → MI → Prop) : Prop := WP mX11_horseChoice 286 Rf0 109 [some (.ref 0), some (.int l1), some (.int l2), some (.ref 46), some (.int l4), some (.int l5), none] [] I (qi Q)
set_option maxRecDepth 20000 in
theorem rX11_horseChoice_22 {l1 l2 l4 l5 : Int32} {I : MI} {Q : Int32 → MI → Prop} (H : (((I 24 0) ≤ l5 → (Q l4 I)) ∧ (¬ (I 24 0) ≤ l5 → ((¬ (l2 &&& ((1 : Int32) <<< (l5 &&& 31))) = 0 → (vp_in ((l1 * 10) + l5) 100 ∧ vp_in ((l1 * 10) + l4) 100 ∧ ∀ x1 : Int32, x1 = (I 39 ((l1 * 10) + l5).toNatClampNeg) - (I 39 ((l1 * 10) + l4).toNatClampNeg) → (l4 = 0 → (LX11_horseChoice_105 l1 l2 l4 l5 x1 I Q)) ∧ (¬ l4 = 0 → ((0 < x1 → (LX11_horseChoice_105 l1 l2 l4 l5 x1 I Q)) ∧ (¬ 0 < x1 → ((¬ x1 = 0 → (LX11_horseChoice_109 l1 l2 l4 l5 I Q)) ∧ (x1 = 0 → (vp_in l5 10 ∧ vp_in l4 10 ∧ ((I 46 l4.toNatClampNeg) ≤ (I 46 l5.toNatClampNeg) → (LX11_horseChoice_109 l1 l2 l4 l5 I Q)) ∧ (¬ (I 46 l4.toNatClampNeg) ≤ (I 46 l5.toNatClampNeg) → (LX11_horseChoice_105 l1 l2 l4 l5 x1 I Q)))))))))) ∧ ((l2 &&& ((1 : Int32) <<< (l5 &&& 31))) = 0 → (LX11_horseChoice_109 l1 l2 l4 l5 I Q)))))) : LX11_horseChoice_22 l1 l2 l4 l5 I Q := by
  show WP mX11_horseChoice 286 Rf0 22 [some (.ref 0), some (.int l1), some (.int l2), some (.ref 46), some (.int l4), some (.int l5), none] [] I (qi Q)
  refine w_iload dX11_horseChoice_22 rfl ?_
  refine w_aload_n dX11_horseChoice_24 rfl rfl ?_
  refine w_getR dX11_horseChoice_25 fl_11_28 okC11 kd_0 (by decide) (by decide) rfl rf_0_2 ?_
  refine w_getI dX11_horseChoice_28 fl_11_130 okC6 kd_24 (by decide) (by decide) rfl ?_
  refine w_icmp_ge (t := 115) dX11_horseChoice_31 (by decide) (fun h => ?_) (fun h => ?_)
  · replace H := H.1 h
    refine w_iload dX11_horseChoice_115 rfl ?_
    exact w_iret dX11_horseChoice_117 rfl ⟨_, rfl, H⟩
  · replace H := H.2 h
    refine w_iload_n dX11_horseChoice_34 rfl rfl ?_
    refine w_iconst (v := 1) dX11_horseChoice_35 (by decide) ?_
    refine w_iload dX11_horseChoice_36 rfl ?_
    refine w_ishl dX11_horseChoice_38 ?_
    refine w_iand dX11_horseChoice_39 ?_
    refine w_if_ne (t := 46) dX11_horseChoice_40 (by decide) (fun h => ?_) (fun h => ?_)
    · replace H := H.1 h
      refine w_aload_n dX11_horseChoice_46 rfl rfl ?_
      refine w_getR dX11_horseChoice_47 fl_11_35 okC11 kd_0 (by decide) (by decide) rfl rf_0_3 ?_
      refine w_getR dX11_horseChoice_50 fl_11_184 okC8 kd_30 (by decide) (by decide) rfl rf_30_10 ?_
      refine w_iload_n dX11_horseChoice_53 rfl rfl ?_
      refine w_bipush (v := 10) dX11_horseChoice_54 (by decide) ?_
      refine w_imul dX11_horseChoice_56 ?_
      refine w_iload dX11_horseChoice_57 rfl ?_
      refine w_iadd dX11_horseChoice_59 ?_
      refine w_iald dX11_horseChoice_60 kd_39 (by decide) H.1 ?_
      replace H := H.2
      refine w_aload_n dX11_horseChoice_61 rfl rfl ?_
      refine w_getR dX11_horseChoice_62 fl_11_35 okC11 kd_0 (by decide) (by decide) rfl rf_0_3 ?_
      refine w_getR dX11_horseChoice_65 fl_11_184 okC8 kd_30 (by decide) (by decide) rfl rf_30_10 ?_
      refine w_iload_n dX11_horseChoice_68 rfl rfl ?_
      refine w_bipush (v := 10) dX11_horseChoice_69 (by decide) ?_
      refine w_imul dX11_horseChoice_71 ?_
      refine w_iload dX11_horseChoice_72 rfl ?_
      refine w_iadd dX11_horseChoice_74 ?_
      refine w_iald dX11_horseChoice_75 kd_39 (by decide) H.1 ?_
      replace H := H.2
      refine w_isub dX11_horseChoice_76 ?_
      refine w_top fun x1 hx => ?_
      replace H := H x1 hx
      refine w_istore (ls' := [some (.ref 0), some (.int l1), some (.int l2), some (.ref 46), some (.int l4), some (.int l5), some (.int x1)]) dX11_horseChoice_77 (by decide) rfl rfl ?_
      refine w_iload dX11_horseChoice_79 rfl ?_
      refine w_if_eq (t := 105) dX11_horseChoice_81 (by decide) (fun h => ?_) (fun h => ?_)
      · replace H := H.1 h
        skip
        exact H
      · replace H := H.2 h
        refine w_iload dX11_horseChoice_84 rfl ?_
        refine w_if_gt (t := 105) dX11_horseChoice_86 (by decide) (fun h => ?_) (fun h => ?_)
        · replace H := H.1 h
          skip
          exact H
        · replace H := H.2 h
          refine w_iload dX11_horseChoice_89 rfl ?_
          refine w_if_ne (t := 109) dX11_horseChoice_91 (by decide) (fun h => ?_) (fun h => ?_)
          · replace H := H.1 h
            refine w_less (ls' := [some (.ref 0), some (.int l1), some (.int l2), some (.ref 46), some (.int l4), some (.int l5), none]) (by simp [lsub]) ?_
            exact H
          · replace H := H.2 h
            refine w_aload_n dX11_horseChoice_94 rfl rfl ?_
            refine w_iload dX11_horseChoice_95 rfl ?_
            refine w_iald dX11_horseChoice_97 kd_46 (by decide) H.1 ?_
            replace H := H.2
            refine w_aload_n dX11_horseChoice_98 rfl rfl ?_
            refine w_iload dX11_horseChoice_99 rfl ?_
            refine w_iald dX11_horseChoice_101 kd_46 (by decide) H.1 ?_
            replace H := H.2
            refine w_icmp_ge (t := 109) dX11_horseChoice_102 (by decide) (fun h => ?_) (fun h => ?_)
            · replace H := H.1 h
              refine w_less (ls' := [some (.ref 0), some (.int l1), some (.int l2), some (.ref 46), some (.int l4), some (.int l5), none]) (by simp [lsub]) ?_
              exact H
            · replace H := H.2 h
              skip
              exact H
    · replace H := H.2 h
      refine w_goto (t := 109) dX11_horseChoice_43 (by decide) ?_
      skip
      exact H
set_option maxRecDepth 20000 in
theorem rX11_horseChoice_105 {l1 l2 l4 l5 l6 : Int32} {I : MI} {Q : Int32 → MI → Prop} (H : (LX11_horseChoice_109 l1 l2 l5 l5 I Q)) : LX11_horseChoice_105 l1 l2 l4 l5 l6 I Q := by
  show WP mX11_horseChoice 286 Rf0 105 [some (.ref 0), some (.int l1), some (.int l2), some (.ref 46), some (.int l4), some (.int l5), some (.int l6)] [] I (qi Q)
  refine w_iload dX11_horseChoice_105 rfl ?_
  refine w_istore (ls' := [some (.ref 0), some (.int l1), some (.int l2), some (.ref 46), some (.int l5), some (.int l5), some (.int l6)]) dX11_horseChoice_107 (by decide) rfl rfl ?_
  refine w_less (ls' := [some (.ref 0), some (.int l1), some (.int l2), some (.ref 46), some (.int l5), some (.int l5), none]) (by simp [lsub]) ?_
  exact H
set_option maxRecDepth 20000 in
theorem rX11_horseChoice_109 {l1 l2 l4 l5 : Int32} {I : MI} {Q : Int32 → MI → Prop} (H : (LX11_horseChoice_22 l1 l2 l4 (l5 + 1) I Q)) : LX11_horseChoice_109 l1 l2 l4 l5 I Q := by
  show WP mX11_horseChoice 286 Rf0 109 [some (.ref 0), some (.int l1), some (.int l2), some (.ref 46), some (.int l4), some (.int l5), none] [] I (qi Q)
  refine w_iinc (v := l5 + 1) (ls' := [some (.ref 0), some (.int l1), some (.int l2), some (.ref 46), some (.int l4), some (.int (l5 + 1)), none]) dX11_horseChoice_109 rfl rfl (by decide) rfl rfl ?_
  refine w_goto (t := 22) dX11_horseChoice_112 (by decide) ?_
  skip
  exact H
set_option maxRecDepth 20000 in
theorem rX11_horseChoice {a1 a2 : Int32} {I : MI} {Q : Int32 → MI → Prop} (H : (Wr mX4_arrivalsFrom [.ref 45, .int a1, .int (I 24 4)] I (fun r2 I1 => r2 = 46 ∧ (LX11_horseChoice_22 a1 a2 0 1 I1 Q)))) : Wi mX11_horseChoice [.ref 0, .int a1, .int a2] I Q := by
  show WP mX11_horseChoice 286 Rf0 0 [some (.ref 0), some (.int a1), some (.int a2), none, none, none, none] [] I (qi Q)
  refine w_aload_n dX11_horseChoice_0 rfl rfl ?_
  refine w_getR dX11_horseChoice_1 fl_11_51 okC11 kd_0 (by decide) (by decide) rfl rf_0_5 ?_
  refine w_iload_n dX11_horseChoice_4 rfl rfl ?_
  refine w_aload_n dX11_horseChoice_5 rfl rfl ?_
  refine w_getR dX11_horseChoice_6 fl_11_28 okC11 kd_0 (by decide) (by decide) rfl rf_0_2 ?_
  refine w_getI dX11_horseChoice_9 fl_11_296 okC6 kd_24 (by decide) (by decide) rfl ?_
  refine w_callV (st := []) (As := [.int a1, .int (I 24 4)]) dX11_horseChoice_12 ml_11_168 okX4_arrivalsFrom kd_45 (by decide) rfl rfl rfl (Nat.le_of_ble_eq_true rfl) (by decide) (Nat.le_of_ble_eq_true rfl) (wc_r H (fun r2 I1 H => ?_))
  obtain ⟨rfl, H⟩ := H
  refine w_astore_n (ls' := [some (.ref 0), some (.int a1), some (.int a2), some (.ref 46), none, none, none]) dX11_horseChoice_15 rfl (by decide) rfl rfl ?_
  refine w_iconst (v := 0) dX11_horseChoice_16 (by decide) ?_
  refine w_istore (ls' := [some (.ref 0), some (.int a1), some (.int a2), some (.ref 46), some (.int 0), none, none]) dX11_horseChoice_17 (by decide) rfl rfl ?_
  refine w_iconst (v := 1) dX11_horseChoice_19 (by decide) ?_
  refine w_istore (ls' := [some (.ref 0), some (.int a1), some (.int a2), some (.ref 46), some (.int 0), some (.int 1), none]) dX11_horseChoice_20 (by decide) rfl rfl ?_
  skip
  exact H
theorem dX11_settleAccounts_0 : decode cX11_settleAccounts 0 = .ok (.iconst 0, 1) := by decide +kernel
theorem dX11_settleAccounts_1 : decode cX11_settleAccounts 1 = .ok (.istore_n 2, 1) := by decide +kernel
theorem dX11_settleAccounts_2 : decode cX11_settleAccounts 2 = .ok (.iload_n 2, 1) := by decide +kernel
theorem dX11_settleAccounts_3 : decode cX11_settleAccounts 3 = .ok (.aload_n 1, 1) := by decide +kernel
theorem dX11_settleAccounts_4 : decode cX11_settleAccounts 4 = .ok (.getfield 236, 3) := by decide +kernel
theorem dX11_settleAccounts_7 : decode cX11_settleAccounts 7 = .ok (.if_icmp .ge 79, 3) := by decide +kernel
theorem dX11_settleAccounts_10 : decode cX11_settleAccounts 10 = .ok (.aload_n 1, 1) := by decide +kernel
theorem dX11_settleAccounts_11 : decode cX11_settleAccounts 11 = .ok (.getfield 242, 3) := by decide +kernel
theorem dX11_settleAccounts_14 : decode cX11_settleAccounts 14 = .ok (.iload_n 2, 1) := by decide +kernel
theorem dX11_settleAccounts_15 : decode cX11_settleAccounts 15 = .ok (.iaload, 1) := by decide +kernel
theorem dX11_settleAccounts_16 : decode cX11_settleAccounts 16 = .ok (.istore_n 3, 1) := by decide +kernel
theorem dX11_settleAccounts_17 : decode cX11_settleAccounts 17 = .ok (.aload_n 0, 1) := by decide +kernel
theorem dX11_settleAccounts_18 : decode cX11_settleAccounts 18 = .ok (.getfield 44, 3) := by decide +kernel
theorem dX11_settleAccounts_21 : decode cX11_settleAccounts 21 = .ok (.iload_n 3, 1) := by decide +kernel
theorem dX11_settleAccounts_22 : decode cX11_settleAccounts 22 = .ok (.invokevirtual 173, 3) := by decide +kernel
theorem dX11_settleAccounts_25 : decode cX11_settleAccounts 25 = .ok (.istore 4, 2) := by decide +kernel
theorem dX11_settleAccounts_27 : decode cX11_settleAccounts 27 = .ok (.aload_n 0, 1) := by decide +kernel
theorem dX11_settleAccounts_28 : decode cX11_settleAccounts 28 = .ok (.getfield 35, 3) := by decide +kernel
theorem dX11_settleAccounts_31 : decode cX11_settleAccounts 31 = .ok (.getfield 217, 3) := by decide +kernel
theorem dX11_settleAccounts_34 : decode cX11_settleAccounts 34 = .ok (.iload_n 3, 1) := by decide +kernel
theorem dX11_settleAccounts_35 : decode cX11_settleAccounts 35 = .ok (.dup2, 1) := by decide +kernel
theorem dX11_settleAccounts_36 : decode cX11_settleAccounts 36 = .ok (.iaload, 1) := by decide +kernel
theorem dX11_settleAccounts_37 : decode cX11_settleAccounts 37 = .ok (.iload 4, 2) := by decide +kernel
theorem dX11_settleAccounts_39 : decode cX11_settleAccounts 39 = .ok (.aload_n 1, 1) := by decide +kernel
theorem dX11_settleAccounts_40 : decode cX11_settleAccounts 40 = .ok (.getfield 248, 3) := by decide +kernel
theorem dX11_settleAccounts_43 : decode cX11_settleAccounts 43 = .ok (.iload_n 2, 1) := by decide +kernel
theorem dX11_settleAccounts_44 : decode cX11_settleAccounts 44 = .ok (.iaload, 1) := by decide +kernel
theorem dX11_settleAccounts_45 : decode cX11_settleAccounts 45 = .ok (.isub, 1) := by decide +kernel
theorem dX11_settleAccounts_46 : decode cX11_settleAccounts 46 = .ok (.iadd, 1) := by decide +kernel
theorem dX11_settleAccounts_47 : decode cX11_settleAccounts 47 = .ok (.iastore, 1) := by decide +kernel
theorem dX11_settleAccounts_48 : decode cX11_settleAccounts 48 = .ok (.aload_n 0, 1) := by decide +kernel
theorem dX11_settleAccounts_49 : decode cX11_settleAccounts 49 = .ok (.getfield 35, 3) := by decide +kernel
theorem dX11_settleAccounts_52 : decode cX11_settleAccounts 52 = .ok (.getfield 220, 3) := by decide +kernel
theorem dX11_settleAccounts_55 : decode cX11_settleAccounts 55 = .ok (.iload_n 3, 1) := by decide +kernel
theorem dX11_settleAccounts_56 : decode cX11_settleAccounts 56 = .ok (.dup2, 1) := by decide +kernel
theorem dX11_settleAccounts_57 : decode cX11_settleAccounts 57 = .ok (.iaload, 1) := by decide +kernel
theorem dX11_settleAccounts_58 : decode cX11_settleAccounts 58 = .ok (.iload 4, 2) := by decide +kernel
theorem dX11_settleAccounts_60 : decode cX11_settleAccounts 60 = .ok (.iadd, 1) := by decide +kernel
theorem dX11_settleAccounts_61 : decode cX11_settleAccounts 61 = .ok (.iastore, 1) := by decide +kernel
theorem dX11_settleAccounts_62 : decode cX11_settleAccounts 62 = .ok (.aload_n 0, 1) := by decide +kernel
theorem dX11_settleAccounts_63 : decode cX11_settleAccounts 63 = .ok (.getfield 35, 3) := by decide +kernel
theorem dX11_settleAccounts_66 : decode cX11_settleAccounts 66 = .ok (.getfield 223, 3) := by decide +kernel
theorem dX11_settleAccounts_69 : decode cX11_settleAccounts 69 = .ok (.iload_n 3, 1) := by decide +kernel
theorem dX11_settleAccounts_70 : decode cX11_settleAccounts 70 = .ok (.dup2, 1) := by decide +kernel
theorem dX11_settleAccounts_71 : decode cX11_settleAccounts 71 = .ok (.iaload, 1) := by decide +kernel
theorem dX11_settleAccounts_72 : decode cX11_settleAccounts 72 = .ok (.aload_n 1, 1) := by decide +kernel
theorem dX11_settleAccounts_73 : decode cX11_settleAccounts 73 = .ok (.getfield 248, 3) := by decide +kernel
theorem dX11_settleAccounts_76 : decode cX11_settleAccounts 76 = .ok (.iload_n 2, 1) := by decide +kernel
theorem dX11_settleAccounts_77 : decode cX11_settleAccounts 77 = .ok (.iaload, 1) := by decide +kernel
theorem dX11_settleAccounts_78 : decode cX11_settleAccounts 78 = .ok (.iadd, 1) := by decide +kernel
theorem dX11_settleAccounts_79 : decode cX11_settleAccounts 79 = .ok (.iastore, 1) := by decide +kernel
theorem dX11_settleAccounts_80 : decode cX11_settleAccounts 80 = .ok (.iinc 2 1, 3) := by decide +kernel
theorem dX11_settleAccounts_83 : decode cX11_settleAccounts 83 = .ok (.goto (-81), 3) := by decide +kernel
theorem dX11_settleAccounts_86 : decode cX11_settleAccounts 86 = .ok (.return_, 1) := by decide +kernel
abbrev LX11_settleAccounts_2 (l2 : Int32) (I : MI) (Q : MI → Prop) : Prop := WP mX11_settleAccounts 286 Rf0 2 [some (.ref 0), some (.ref 57), some (.int l2), none, none] [] I (qv Q)
set_option maxRecDepth 20000 in
theorem rX11_settleAccounts_2 {l2 : Int32} {I : MI} {Q : MI → Prop} (H : (((I 57 1) ≤ l2 → (Q I)) ∧ (¬ (I 57 1) ≤ l2 → (vp_in l2 12 ∧ Wi mX10_demandOf [.ref 44, .int (I 58 l2.toNatClampNeg)] I (fun r2 I1 => (vp_in (I 58 l2.toNatClampNeg) 12 ∧ vp_in l2 12 ∧ vp_in (I 58 l2.toNatClampNeg) 12 ∧ ∀ I3 : MI, I3 = up2 I1 35 (I 58 l2.toNatClampNeg).toNatClampNeg ((I1 35 (I 58 l2.toNatClampNeg).toNatClampNeg) + (r2 - (I1 60 l2.toNatClampNeg))) → vp_in (I 58 l2.toNatClampNeg) 12 ∧ vp_in (I 58 l2.toNatClampNeg) 12 ∧ ∀ I4 : MI, I4 = up2 I3 36 (I 58 l2.toNatClampNeg).toNatClampNeg ((I3 36 (I 58 l2.toNatClampNeg).toNatClampNeg) + r2) → vp_in (I 58 l2.toNatClampNeg) 12 ∧ vp_in l2 12 ∧ vp_in (I 58 l2.toNatClampNeg) 12 ∧ ∀ I5 : MI, I5 = up2 I4 37 (I 58 l2.toNatClampNeg).toNatClampNeg ((I4 37 (I 58 l2.toNatClampNeg).toNatClampNeg) + (I4 60 l2.toNatClampNeg)) → LX11_settleAccounts_2 (l2 + 1) I5 Q)))))) : LX11_settleAccounts_2 l2 I Q := by
  show WP mX11_settleAccounts 286 Rf0 2 [some (.ref 0), some (.ref 57), some (.int l2), none, none] [] I (qv Q)
  refine w_iload_n dX11_settleAccounts_2 rfl rfl ?_
  refine w_aload_n dX11_settleAccounts_3 rfl rfl ?_
  refine w_getI dX11_settleAccounts_4 fl_11_236 okC3 kd_57 (by decide) (by decide) rfl ?_
  refine w_icmp_ge (t := 86) dX11_settleAccounts_7 (by decide) (fun h => ?_) (fun h => ?_)
  · replace H := H.1 h
    exact w_vret dX11_settleAccounts_86 rfl ⟨rfl, H⟩
  · replace H := H.2 h
    refine w_aload_n dX11_settleAccounts_10 rfl rfl ?_
    refine w_getR dX11_settleAccounts_11 fl_11_242 okC3 kd_57 (by decide) (by decide) rfl rf_57_3 ?_
    refine w_iload_n dX11_settleAccounts_14 rfl rfl ?_
    refine w_iald dX11_settleAccounts_15 kd_58 (by decide) H.1 ?_
    replace H := H.2
    refine w_istore_n (ls' := [some (.ref 0), some (.ref 57), some (.int l2), some (.int (I 58 l2.toNatClampNeg)), none]) dX11_settleAccounts_16 rfl (by decide) rfl rfl ?_
    refine w_aload_n dX11_settleAccounts_17 rfl rfl ?_
    refine w_getR dX11_settleAccounts_18 fl_11_44 okC11 kd_0 (by decide) (by decide) rfl rf_0_4 ?_
    refine w_iload_n dX11_settleAccounts_21 rfl rfl ?_
    refine w_callV (st := []) (As := [.int (I 58 l2.toNatClampNeg)]) dX11_settleAccounts_22 ml_11_173 okX10_demandOf kd_44 (by decide) rfl rfl rfl (Nat.le_of_ble_eq_true rfl) (by decide) (Nat.le_of_ble_eq_true rfl) (wc_i H (fun r2 I1 H => ?_))
    refine w_istore (ls' := [some (.ref 0), some (.ref 57), some (.int l2), some (.int (I 58 l2.toNatClampNeg)), some (.int r2)]) dX11_settleAccounts_25 (by decide) rfl rfl ?_
    refine w_aload_n dX11_settleAccounts_27 rfl rfl ?_
    refine w_getR dX11_settleAccounts_28 fl_11_35 okC11 kd_0 (by decide) (by decide) rfl rf_0_3 ?_
    refine w_getR dX11_settleAccounts_31 fl_11_217 okC8 kd_30 (by decide) (by decide) rfl rf_30_6 ?_
    refine w_iload_n dX11_settleAccounts_34 rfl rfl ?_
    refine w_dup2 dX11_settleAccounts_35 rfl rfl ?_
    refine w_iald dX11_settleAccounts_36 kd_35 (by decide) H.1 ?_
    replace H := H.2
    refine w_iload dX11_settleAccounts_37 rfl ?_
    refine w_aload_n dX11_settleAccounts_39 rfl rfl ?_
    refine w_getR dX11_settleAccounts_40 fl_11_248 okC3 kd_57 (by decide) (by decide) rfl rf_57_5 ?_
    refine w_iload_n dX11_settleAccounts_43 rfl rfl ?_
    refine w_iald dX11_settleAccounts_44 kd_60 (by decide) H.1 ?_
    replace H := H.2
    refine w_isub dX11_settleAccounts_45 ?_
    refine w_iadd dX11_settleAccounts_46 ?_
    refine w_iast dX11_settleAccounts_47 kd_35 (by decide) H.1 (w_up fun I3 hI => ?_)
    replace H := H.2 I3 hI
    refine w_aload_n dX11_settleAccounts_48 rfl rfl ?_
    refine w_getR dX11_settleAccounts_49 fl_11_35 okC11 kd_0 (by decide) (by decide) rfl rf_0_3 ?_
    refine w_getR dX11_settleAccounts_52 fl_11_220 okC8 kd_30 (by decide) (by decide) rfl rf_30_7 ?_
    refine w_iload_n dX11_settleAccounts_55 rfl rfl ?_
    refine w_dup2 dX11_settleAccounts_56 rfl rfl ?_
    refine w_iald dX11_settleAccounts_57 kd_36 (by decide) H.1 ?_
    replace H := H.2
    refine w_iload dX11_settleAccounts_58 rfl ?_
    refine w_iadd dX11_settleAccounts_60 ?_
    refine w_iast dX11_settleAccounts_61 kd_36 (by decide) H.1 (w_up fun I4 hI => ?_)
    replace H := H.2 I4 hI
    refine w_aload_n dX11_settleAccounts_62 rfl rfl ?_
    refine w_getR dX11_settleAccounts_63 fl_11_35 okC11 kd_0 (by decide) (by decide) rfl rf_0_3 ?_
    refine w_getR dX11_settleAccounts_66 fl_11_223 okC8 kd_30 (by decide) (by decide) rfl rf_30_8 ?_
    refine w_iload_n dX11_settleAccounts_69 rfl rfl ?_
    refine w_dup2 dX11_settleAccounts_70 rfl rfl ?_
    refine w_iald dX11_settleAccounts_71 kd_37 (by decide) H.1 ?_
    replace H := H.2
    refine w_aload_n dX11_settleAccounts_72 rfl rfl ?_
    refine w_getR dX11_settleAccounts_73 fl_11_248 okC3 kd_57 (by decide) (by decide) rfl rf_57_5 ?_
    refine w_iload_n dX11_settleAccounts_76 rfl rfl ?_
    refine w_iald dX11_settleAccounts_77 kd_60 (by decide) H.1 ?_
    replace H := H.2
    refine w_iadd dX11_settleAccounts_78 ?_
    refine w_iast dX11_settleAccounts_79 kd_37 (by decide) H.1 (w_up fun I5 hI => ?_)
    replace H := H.2 I5 hI
    refine w_iinc (v := l2 + 1) (ls' := [some (.ref 0), some (.ref 57), some (.int (l2 + 1)), some (.int (I 58 l2.toNatClampNeg)), some (.int r2)]) dX11_settleAccounts_80 rfl rfl (by decide) rfl rfl ?_
    refine w_goto (t := 2) dX11_settleAccounts_83 (by decide) ?_
    refine w_less (ls' := [some (.ref 0), some (.ref 57), some (.int (l2 + 1)), none, none]) (by simp [lsub]) ?_
    exact H
set_option maxRecDepth 20000 in
theorem rX11_settleAccounts {I : MI} {Q : MI → Prop} (H : (LX11_settleAccounts_2 0 I Q)) : Wv mX11_settleAccounts [.ref 0, .ref 57] I Q := by
  show WP mX11_settleAccounts 286 Rf0 0 [some (.ref 0), some (.ref 57), none, none, none] [] I (qv Q)
  refine w_iconst (v := 0) dX11_settleAccounts_0 (by decide) ?_
  refine w_istore_n (ls' := [some (.ref 0), some (.ref 57), some (.int 0), none, none]) dX11_settleAccounts_1 rfl (by decide) rfl rfl ?_
  skip
  exact H
theorem dX11_learnHabits_0 : decode cX11_learnHabits 0 = .ok (.iconst 0, 1) := by decide +kernel
theorem dX11_learnHabits_1 : decode cX11_learnHabits 1 = .ok (.istore_n 2, 1) := by decide +kernel
theorem dX11_learnHabits_2 : decode cX11_learnHabits 2 = .ok (.iconst 0, 1) := by decide +kernel
theorem dX11_learnHabits_3 : decode cX11_learnHabits 3 = .ok (.istore_n 3, 1) := by decide +kernel
theorem dX11_learnHabits_4 : decode cX11_learnHabits 4 = .ok (.iload_n 3, 1) := by decide +kernel
theorem dX11_learnHabits_5 : decode cX11_learnHabits 5 = .ok (.aload_n 1, 1) := by decide +kernel
theorem dX11_learnHabits_6 : decode cX11_learnHabits 6 = .ok (.getfield 236, 3) := by decide +kernel
theorem dX11_learnHabits_9 : decode cX11_learnHabits 9 = .ok (.if_icmp .ge 53, 3) := by decide +kernel
theorem dX11_learnHabits_12 : decode cX11_learnHabits 12 = .ok (.aload_n 0, 1) := by decide +kernel
theorem dX11_learnHabits_13 : decode cX11_learnHabits 13 = .ok (.getfield 28, 3) := by decide +kernel
theorem dX11_learnHabits_16 : decode cX11_learnHabits 16 = .ok (.getfield 146, 3) := by decide +kernel
theorem dX11_learnHabits_19 : decode cX11_learnHabits 19 = .ok (.aload_n 1, 1) := by decide +kernel
theorem dX11_learnHabits_20 : decode cX11_learnHabits 20 = .ok (.getfield 242, 3) := by decide +kernel
theorem dX11_learnHabits_23 : decode cX11_learnHabits 23 = .ok (.iload_n 3, 1) := by decide +kernel
theorem dX11_learnHabits_24 : decode cX11_learnHabits 24 = .ok (.iaload, 1) := by decide +kernel
theorem dX11_learnHabits_25 : decode cX11_learnHabits 25 = .ok (.iaload, 1) := by decide +kernel
theorem dX11_learnHabits_26 : decode cX11_learnHabits 26 = .ok (.istore 4, 2) := by decide +kernel
theorem dX11_learnHabits_28 : decode cX11_learnHabits 28 = .ok (.iload 4, 2) := by decide +kernel
theorem dX11_learnHabits_30 : decode cX11_learnHabits 30 = .ok (.iload_n 2, 1) := by decide +kernel
theorem dX11_learnHabits_31 : decode cX11_learnHabits 31 = .ok (.if_icmp .eq 25, 3) := by decide +kernel
theorem dX11_learnHabits_34 : decode cX11_learnHabits 34 = .ok (.aload_n 0, 1) := by decide +kernel
theorem dX11_learnHabits_35 : decode cX11_learnHabits 35 = .ok (.getfield 35, 3) := by decide +kernel
theorem dX11_learnHabits_38 : decode cX11_learnHabits 38 = .ok (.getfield 184, 3) := by decide +kernel
theorem dX11_learnHabits_41 : decode cX11_learnHabits 41 = .ok (.iload_n 2, 1) := by decide +kernel
theorem dX11_learnHabits_42 : decode cX11_learnHabits 42 = .ok (.bipush 10, 2) := by decide +kernel
theorem dX11_learnHabits_44 : decode cX11_learnHabits 44 = .ok (.imul, 1) := by decide +kernel
theorem dX11_learnHabits_45 : decode cX11_learnHabits 45 = .ok (.iload 4, 2) := by decide +kernel
theorem dX11_learnHabits_47 : decode cX11_learnHabits 47 = .ok (.iadd, 1) := by decide +kernel
theorem dX11_learnHabits_48 : decode cX11_learnHabits 48 = .ok (.dup2, 1) := by decide +kernel
theorem dX11_learnHabits_49 : decode cX11_learnHabits 49 = .ok (.iaload, 1) := by decide +kernel
theorem dX11_learnHabits_50 : decode cX11_learnHabits 50 = .ok (.iconst 1, 1) := by decide +kernel
theorem dX11_learnHabits_51 : decode cX11_learnHabits 51 = .ok (.iadd, 1) := by decide +kernel
theorem dX11_learnHabits_52 : decode cX11_learnHabits 52 = .ok (.iastore, 1) := by decide +kernel
theorem dX11_learnHabits_53 : decode cX11_learnHabits 53 = .ok (.iload 4, 2) := by decide +kernel
theorem dX11_learnHabits_55 : decode cX11_learnHabits 55 = .ok (.istore_n 2, 1) := by decide +kernel
theorem dX11_learnHabits_56 : decode cX11_learnHabits 56 = .ok (.iinc 3 1, 3) := by decide +kernel
theorem dX11_learnHabits_59 : decode cX11_learnHabits 59 = .ok (.goto (-55), 3) := by decide +kernel
theorem dX11_learnHabits_62 : decode cX11_learnHabits 62 = .ok (.iload_n 2, 1) := by decide +kernel
theorem dX11_learnHabits_63 : decode cX11_learnHabits 63 = .ok (.ifCond .eq 30, 3) := by decide +kernel
theorem dX11_learnHabits_66 : decode cX11_learnHabits 66 = .ok (.aload_n 1, 1) := by decide +kernel
theorem dX11_learnHabits_67 : decode cX11_learnHabits 67 = .ok (.getfield 214, 3) := by decide +kernel
theorem dX11_learnHabits_70 : decode cX11_learnHabits 70 = .ok (.bipush (-2), 2) := by decide +kernel
theorem dX11_learnHabits_72 : decode cX11_learnHabits 72 = .ok (.if_icmp .eq 21, 3) := by decide +kernel
theorem dX11_learnHabits_75 : decode cX11_learnHabits 75 = .ok (.aload_n 0, 1) := by decide +kernel
theorem dX11_learnHabits_76 : decode cX11_learnHabits 76 = .ok (.getfield 35, 3) := by decide +kernel
theorem dX11_learnHabits_79 : decode cX11_learnHabits 79 = .ok (.getfield 184, 3) := by decide +kernel
theorem dX11_learnHabits_82 : decode cX11_learnHabits 82 = .ok (.iload_n 2, 1) := by decide +kernel
theorem dX11_learnHabits_83 : decode cX11_learnHabits 83 = .ok (.bipush 10, 2) := by decide +kernel
theorem dX11_learnHabits_85 : decode cX11_learnHabits 85 = .ok (.imul, 1) := by decide +kernel
theorem dX11_learnHabits_86 : decode cX11_learnHabits 86 = .ok (.iconst 0, 1) := by decide +kernel
theorem dX11_learnHabits_87 : decode cX11_learnHabits 87 = .ok (.iadd, 1) := by decide +kernel
theorem dX11_learnHabits_88 : decode cX11_learnHabits 88 = .ok (.dup2, 1) := by decide +kernel
theorem dX11_learnHabits_89 : decode cX11_learnHabits 89 = .ok (.iaload, 1) := by decide +kernel
theorem dX11_learnHabits_90 : decode cX11_learnHabits 90 = .ok (.iconst 1, 1) := by decide +kernel
theorem dX11_learnHabits_91 : decode cX11_learnHabits 91 = .ok (.iadd, 1) := by decide +kernel
theorem dX11_learnHabits_92 : decode cX11_learnHabits 92 = .ok (.iastore, 1) := by decide +kernel
theorem dX11_learnHabits_93 : decode cX11_learnHabits 93 = .ok (.return_, 1) := by decide +kernel
abbrev LX11_learnHabits_4 (l2 l3 : Int32) (I : MI) (Q : MI → Prop) : Prop := WP mX11_learnHabits 286 Rf0 4 [some (.ref 0), some (.ref 57), some (.int l2), some (.int l3), none] [] I (qv Q)
abbrev LX11_learnHabits_56 (l2 l3 l4 : Int32) (I : MI) (Q : MI → Prop) : Prop := WP mX11_learnHabits 286 Rf0 56 [some (.ref 0), some (.ref 57), some (.int l2), some (.int l3), some (.int l4)] [] I (qv Q)
set_option maxRecDepth 20000 in
theorem rX11_learnHabits_4 {l2 l3 : Int32} {I : MI} {Q : MI → Prop} (H : (((I 57 1) ≤ l3 → ((l2 = 0 → (Q I)) ∧ (¬ l2 = 0 → (((I 57 0) = (-2) → (Q I)) ∧ (¬ (I 57 0) = (-2) → (vp_in ((l2 * 10) + 0) 100 ∧ vp_in ((l2 * 10) + 0) 100 ∧ ∀ I1 : MI, I1 = up2 I 39 ((l2 * 10) + 0).toNatClampNeg ((I 39 ((l2 * 10) + 0).toNatClampNeg) + 1) → Q I1)))))) ∧ (¬ (I 57 1) ≤ l3 → (vp_in l3 12 ∧ vp_in (I 58 l3.toNatClampNeg) 12 ∧ ((I 28 (I 58 l3.toNatClampNeg).toNatClampNeg) = l2 → (LX11_learnHabits_56 l2 l3 (I 28 (I 58 l3.toNatClampNeg).toNatClampNeg) I Q)) ∧ (¬ (I 28 (I 58 l3.toNatClampNeg).toNatClampNeg) = l2 → (vp_in ((l2 * 10) + (I 28 (I 58 l3.toNatClampNeg).toNatClampNeg)) 100 ∧ vp_in ((l2 * 10) + (I 28 (I 58 l3.toNatClampNeg).toNatClampNeg)) 100 ∧ ∀ I1 : MI, I1 = up2 I 39 ((l2 * 10) + (I 28 (I 58 l3.toNatClampNeg).toNatClampNeg)).toNatClampNeg ((I 39 ((l2 * 10) + (I 28 (I 58 l3.toNatClampNeg).toNatClampNeg)).toNatClampNeg) + 1) → LX11_learnHabits_56 (I 28 (I 58 l3.toNatClampNeg).toNatClampNeg) l3 (I 28 (I 58 l3.toNatClampNeg).toNatClampNeg) I1 Q)))))) : LX11_learnHabits_4 l2 l3 I Q := by
  show WP mX11_learnHabits 286 Rf0 4 [some (.ref 0), some (.ref 57), some (.int l2), some (.int l3), none] [] I (qv Q)
  refine w_iload_n dX11_learnHabits_4 rfl rfl ?_
  refine w_aload_n dX11_learnHabits_5 rfl rfl ?_
  refine w_getI dX11_learnHabits_6 fl_11_236 okC3 kd_57 (by decide) (by decide) rfl ?_
  refine w_icmp_ge (t := 62) dX11_learnHabits_9 (by decide) (fun h => ?_) (fun h => ?_)
  · replace H := H.1 h
    refine w_iload_n dX11_learnHabits_62 rfl rfl ?_
    refine w_if_eq (t := 93) dX11_learnHabits_63 (by decide) (fun h => ?_) (fun h => ?_)
    · replace H := H.1 h
      exact w_vret dX11_learnHabits_93 rfl ⟨rfl, H⟩
    · replace H := H.2 h
      refine w_aload_n dX11_learnHabits_66 rfl rfl ?_
      refine w_getI dX11_learnHabits_67 fl_11_214 okC3 kd_57 (by decide) (by decide) rfl ?_
      refine w_bipush (v := (-2)) dX11_learnHabits_70 (by decide) ?_
      refine w_icmp_eq (t := 93) dX11_learnHabits_72 (by decide) (fun h => ?_) (fun h => ?_)
      · replace H := H.1 h
        exact w_vret dX11_learnHabits_93 rfl ⟨rfl, H⟩
      · replace H := H.2 h
        refine w_aload_n dX11_learnHabits_75 rfl rfl ?_
        refine w_getR dX11_learnHabits_76 fl_11_35 okC11 kd_0 (by decide) (by decide) rfl rf_0_3 ?_
        refine w_getR dX11_learnHabits_79 fl_11_184 okC8 kd_30 (by decide) (by decide) rfl rf_30_10 ?_
        refine w_iload_n dX11_learnHabits_82 rfl rfl ?_
        refine w_bipush (v := 10) dX11_learnHabits_83 (by decide) ?_
        refine w_imul dX11_learnHabits_85 ?_
        refine w_iconst (v := 0) dX11_learnHabits_86 (by decide) ?_
        refine w_iadd dX11_learnHabits_87 ?_
        refine w_dup2 dX11_learnHabits_88 rfl rfl ?_
        refine w_iald dX11_learnHabits_89 kd_39 (by decide) H.1 ?_
        replace H := H.2
        refine w_iconst (v := 1) dX11_learnHabits_90 (by decide) ?_
        refine w_iadd dX11_learnHabits_91 ?_
        refine w_iast dX11_learnHabits_92 kd_39 (by decide) H.1 (w_up fun I1 hI => ?_)
        replace H := H.2 I1 hI
        exact w_vret dX11_learnHabits_93 rfl ⟨rfl, H⟩
  · replace H := H.2 h
    refine w_aload_n dX11_learnHabits_12 rfl rfl ?_
    refine w_getR dX11_learnHabits_13 fl_11_28 okC11 kd_0 (by decide) (by decide) rfl rf_0_2 ?_
    refine w_getR dX11_learnHabits_16 fl_11_146 okC6 kd_24 (by decide) (by decide) rfl rf_24_10 ?_
    refine w_aload_n dX11_learnHabits_19 rfl rfl ?_
    refine w_getR dX11_learnHabits_20 fl_11_242 okC3 kd_57 (by decide) (by decide) rfl rf_57_3 ?_
    refine w_iload_n dX11_learnHabits_23 rfl rfl ?_
    refine w_iald dX11_learnHabits_24 kd_58 (by decide) H.1 ?_
    replace H := H.2
    refine w_iald dX11_learnHabits_25 kd_28 (by decide) H.1 ?_
    replace H := H.2
    refine w_istore (ls' := [some (.ref 0), some (.ref 57), some (.int l2), some (.int l3), some (.int (I 28 (I 58 l3.toNatClampNeg).toNatClampNeg))]) dX11_learnHabits_26 (by decide) rfl rfl ?_
    refine w_iload dX11_learnHabits_28 rfl ?_
    refine w_iload_n dX11_learnHabits_30 rfl rfl ?_
    refine w_icmp_eq (t := 56) dX11_learnHabits_31 (by decide) (fun h => ?_) (fun h => ?_)
    · replace H := H.1 h
      skip
      exact H
    · replace H := H.2 h
      refine w_aload_n dX11_learnHabits_34 rfl rfl ?_
      refine w_getR dX11_learnHabits_35 fl_11_35 okC11 kd_0 (by decide) (by decide) rfl rf_0_3 ?_
      refine w_getR dX11_learnHabits_38 fl_11_184 okC8 kd_30 (by decide) (by decide) rfl rf_30_10 ?_
      refine w_iload_n dX11_learnHabits_41 rfl rfl ?_
      refine w_bipush (v := 10) dX11_learnHabits_42 (by decide) ?_
      refine w_imul dX11_learnHabits_44 ?_
      refine w_iload dX11_learnHabits_45 rfl ?_
      refine w_iadd dX11_learnHabits_47 ?_
      refine w_dup2 dX11_learnHabits_48 rfl rfl ?_
      refine w_iald dX11_learnHabits_49 kd_39 (by decide) H.1 ?_
      replace H := H.2
      refine w_iconst (v := 1) dX11_learnHabits_50 (by decide) ?_
      refine w_iadd dX11_learnHabits_51 ?_
      refine w_iast dX11_learnHabits_52 kd_39 (by decide) H.1 (w_up fun I1 hI => ?_)
      replace H := H.2 I1 hI
      refine w_iload dX11_learnHabits_53 rfl ?_
      refine w_istore_n (ls' := [some (.ref 0), some (.ref 57), some (.int (I 28 (I 58 l3.toNatClampNeg).toNatClampNeg)), some (.int l3), some (.int (I 28 (I 58 l3.toNatClampNeg).toNatClampNeg))]) dX11_learnHabits_55 rfl (by decide) rfl rfl ?_
      skip
      exact H
set_option maxRecDepth 20000 in
theorem rX11_learnHabits_56 {l2 l3 l4 : Int32} {I : MI} {Q : MI → Prop} (H : (LX11_learnHabits_4 l2 (l3 + 1) I Q)) : LX11_learnHabits_56 l2 l3 l4 I Q := by
  show WP mX11_learnHabits 286 Rf0 56 [some (.ref 0), some (.ref 57), some (.int l2), some (.int l3), some (.int l4)] [] I (qv Q)
  refine w_iinc (v := l3 + 1) (ls' := [some (.ref 0), some (.ref 57), some (.int l2), some (.int (l3 + 1)), some (.int l4)]) dX11_learnHabits_56 rfl rfl (by decide) rfl rfl ?_
  refine w_goto (t := 4) dX11_learnHabits_59 (by decide) ?_
  refine w_less (ls' := [some (.ref 0), some (.ref 57), some (.int l2), some (.int (l3 + 1)), none]) (by simp [lsub]) ?_
  exact H
set_option maxRecDepth 20000 in
theorem rX11_learnHabits {I : MI} {Q : MI → Prop} (H : (LX11_learnHabits_4 0 0 I Q)) : Wv mX11_learnHabits [.ref 0, .ref 57] I Q := by
  show WP mX11_learnHabits 286 Rf0 0 [some (.ref 0), some (.ref 57), none, none, none] [] I (qv Q)
  refine w_iconst (v := 0) dX11_learnHabits_0 (by decide) ?_
  refine w_istore_n (ls' := [some (.ref 0), some (.ref 57), some (.int 0), none, none]) dX11_learnHabits_1 rfl (by decide) rfl rfl ?_
  refine w_iconst (v := 0) dX11_learnHabits_2 (by decide) ?_
  refine w_istore_n (ls' := [some (.ref 0), some (.ref 57), some (.int 0), some (.int 0), none]) dX11_learnHabits_3 rfl (by decide) rfl rfl ?_
  skip
  exact H
