theorem dX10_demandOf_0 : decode cX10_demandOf 0 = .ok (.aload_n 0, 1) := by decide +kernel
theorem dX10_demandOf_1 : decode cX10_demandOf 1 = .ok (.getfield 15, 3) := by decide +kernel
theorem dX10_demandOf_4 : decode cX10_demandOf 4 = .ok (.iload_n 1, 1) := by decide +kernel
theorem dX10_demandOf_5 : decode cX10_demandOf 5 = .ok (.invokevirtual 19, 3) := by decide +kernel
theorem dX10_demandOf_8 : decode cX10_demandOf 8 = .ok (.ifCond .eq 5, 3) := by decide +kernel
theorem dX10_demandOf_11 : decode cX10_demandOf 11 = .ok (.iconst 0, 1) := by decide +kernel
theorem dX10_demandOf_12 : decode cX10_demandOf 12 = .ok (.ireturn, 1) := by decide +kernel
theorem dX10_demandOf_13 : decode cX10_demandOf 13 = .ok (.aload_n 0, 1) := by decide +kernel
theorem dX10_demandOf_14 : decode cX10_demandOf 14 = .ok (.getfield 15, 3) := by decide +kernel
theorem dX10_demandOf_17 : decode cX10_demandOf 17 = .ok (.getfield 25, 3) := by decide +kernel
theorem dX10_demandOf_20 : decode cX10_demandOf 20 = .ok (.iload_n 1, 1) := by decide +kernel
theorem dX10_demandOf_21 : decode cX10_demandOf 21 = .ok (.bipush 7, 2) := by decide +kernel
theorem dX10_demandOf_23 : decode cX10_demandOf 23 = .ok (.imul, 1) := by decide +kernel
theorem dX10_demandOf_24 : decode cX10_demandOf 24 = .ok (.aload_n 0, 1) := by decide +kernel
theorem dX10_demandOf_25 : decode cX10_demandOf 25 = .ok (.getfield 15, 3) := by decide +kernel
theorem dX10_demandOf_28 : decode cX10_demandOf 28 = .ok (.getfield 29, 3) := by decide +kernel
theorem dX10_demandOf_31 : decode cX10_demandOf 31 = .ok (.bipush 7, 2) := by decide +kernel
theorem dX10_demandOf_33 : decode cX10_demandOf 33 = .ok (.irem, 1) := by decide +kernel
theorem dX10_demandOf_34 : decode cX10_demandOf 34 = .ok (.iadd, 1) := by decide +kernel
theorem dX10_demandOf_35 : decode cX10_demandOf 35 = .ok (.iaload, 1) := by decide +kernel
theorem dX10_demandOf_36 : decode cX10_demandOf 36 = .ok (.ireturn, 1) := by decide +kernel
set_option maxRecDepth 20000 in
theorem rX10_demandOf {a1 : Int32} {I : MI} {Q : Int32 → MI → Prop} (H : (Wi mX8_isSkipped [.ref 30, .int a1] I (fun r2 I1 => ((r2 = 0 → (vp_in ((a1 * 7) + ((I1 30 0) - (I1 30 0) / 7 * 7)) 84 ∧ Q (I1 31 ((a1 * 7) + ((I1 30 0) - (I1 30 0) / 7 * 7)).toNatClampNeg) I1)) ∧ (¬ r2 = 0 → (Q 0 I1)))))) : Wi mX10_demandOf [.ref 44, .int a1] I Q := by
  show WP mX10_demandOf 286 Rf0 0 [some (.ref 44), some (.int a1)] [] I (qi Q)
  refine w_aload_n dX10_demandOf_0 rfl rfl ?_
  refine w_getR dX10_demandOf_1 fl_10_15 okC10 kd_44 (by decide) (by decide) rfl rf_44_1 ?_
  refine w_iload_n dX10_demandOf_4 rfl rfl ?_
  refine w_callV (st := []) (As := [.int a1]) dX10_demandOf_5 ml_10_19 okX8_isSkipped kd_30 (by decide) rfl rfl rfl (Nat.le_of_ble_eq_true rfl) (by decide) (Nat.le_of_ble_eq_true rfl) (wc_i H (fun r2 I1 H => ?_))
  refine w_if_eq (t := 13) dX10_demandOf_8 (by decide) (fun h => ?_) (fun h => ?_)
  · replace H := H.1 h
    refine w_aload_n dX10_demandOf_13 rfl rfl ?_
    refine w_getR dX10_demandOf_14 fl_10_15 okC10 kd_44 (by decide) (by decide) rfl rf_44_1 ?_
    refine w_getR dX10_demandOf_17 fl_10_25 okC8 kd_30 (by decide) (by decide) rfl rf_30_2 ?_
    refine w_iload_n dX10_demandOf_20 rfl rfl ?_
    refine w_bipush (v := 7) dX10_demandOf_21 (by decide) ?_
    refine w_imul dX10_demandOf_23 ?_
    refine w_aload_n dX10_demandOf_24 rfl rfl ?_
    refine w_getR dX10_demandOf_25 fl_10_15 okC10 kd_44 (by decide) (by decide) rfl rf_44_1 ?_
    refine w_getI dX10_demandOf_28 fl_10_29 okC8 kd_30 (by decide) (by decide) rfl ?_
    refine w_bipush (v := 7) dX10_demandOf_31 (by decide) ?_
    refine w_irem dX10_demandOf_33 (by decide) ?_
    refine w_iadd dX10_demandOf_34 ?_
    refine w_iald dX10_demandOf_35 kd_31 (by decide) H.1 ?_
    replace H := H.2
    exact w_iret dX10_demandOf_36 rfl ⟨_, rfl, H⟩
  · replace H := H.2 h
    refine w_iconst (v := 0) dX10_demandOf_11 (by decide) ?_
    exact w_iret dX10_demandOf_12 rfl ⟨_, rfl, H⟩
theorem dX10_sumOfDemands_0 : decode cX10_sumOfDemands 0 = .ok (.iconst 0, 1) := by decide +kernel
theorem dX10_sumOfDemands_1 : decode cX10_sumOfDemands 1 = .ok (.istore_n 1, 1) := by decide +kernel
theorem dX10_sumOfDemands_2 : decode cX10_sumOfDemands 2 = .ok (.iconst 0, 1) := by decide +kernel
theorem dX10_sumOfDemands_3 : decode cX10_sumOfDemands 3 = .ok (.istore_n 2, 1) := by decide +kernel
theorem dX10_sumOfDemands_4 : decode cX10_sumOfDemands 4 = .ok (.iload_n 2, 1) := by decide +kernel
theorem dX10_sumOfDemands_5 : decode cX10_sumOfDemands 5 = .ok (.aload_n 0, 1) := by decide +kernel
theorem dX10_sumOfDemands_6 : decode cX10_sumOfDemands 6 = .ok (.getfield 9, 3) := by decide +kernel
theorem dX10_sumOfDemands_9 : decode cX10_sumOfDemands 9 = .ok (.getfield 33, 3) := by decide +kernel
theorem dX10_sumOfDemands_12 : decode cX10_sumOfDemands 12 = .ok (.if_icmp .ge 17, 3) := by decide +kernel
theorem dX10_sumOfDemands_15 : decode cX10_sumOfDemands 15 = .ok (.iload_n 1, 1) := by decide +kernel
theorem dX10_sumOfDemands_16 : decode cX10_sumOfDemands 16 = .ok (.aload_n 0, 1) := by decide +kernel
theorem dX10_sumOfDemands_17 : decode cX10_sumOfDemands 17 = .ok (.iload_n 2, 1) := by decide +kernel
theorem dX10_sumOfDemands_18 : decode cX10_sumOfDemands 18 = .ok (.invokevirtual 41, 3) := by decide +kernel
theorem dX10_sumOfDemands_21 : decode cX10_sumOfDemands 21 = .ok (.iadd, 1) := by decide +kernel
theorem dX10_sumOfDemands_22 : decode cX10_sumOfDemands 22 = .ok (.istore_n 1, 1) := by decide +kernel
theorem dX10_sumOfDemands_23 : decode cX10_sumOfDemands 23 = .ok (.iinc 2 1, 3) := by decide +kernel
theorem dX10_sumOfDemands_26 : decode cX10_sumOfDemands 26 = .ok (.goto (-22), 3) := by decide +kernel
theorem dX10_sumOfDemands_29 : decode cX10_sumOfDemands 29 = .ok (.iload_n 1, 1) := by decide +kernel
theorem dX10_sumOfDemands_30 : decode cX10_sumOfDemands 30 = .ok (.ireturn, 1) := by decide +kernel
abbrev LX10_sumOfDemands_4 (l1 l2 : Int32) (I : MI) (Q : Int32 → MI → Prop) : Prop := WP mX10_sumOfDemands 286 Rf0 4 [some (.ref 44), some (.int l1), some (.int l2)] [] I (qi Q)
set_option maxRecDepth 20000 in
theorem rX10_sumOfDemands_4 {l1 l2 : Int32} {I : MI} {Q : Int32 → MI → Prop} (H : (((I 24 2) ≤ l2 → (Q l1 I)) ∧ (¬ (I 24 2) ≤ l2 → (Wi mX10_demandOf [.ref 44, .int l2] I (fun r2 I1 => (LX10_sumOfDemands_4 (l1 + r2) (l2 + 1) I1 Q)))))) : LX10_sumOfDemands_4 l1 l2 I Q := by
  show WP mX10_sumOfDemands 286 Rf0 4 [some (.ref 44), some (.int l1), some (.int l2)] [] I (qi Q)
  refine w_iload_n dX10_sumOfDemands_4 rfl rfl ?_
  refine w_aload_n dX10_sumOfDemands_5 rfl rfl ?_
  refine w_getR dX10_sumOfDemands_6 fl_10_9 okC10 kd_44 (by decide) (by decide) rfl rf_44_0 ?_
  refine w_getI dX10_sumOfDemands_9 fl_10_33 okC6 kd_24 (by decide) (by decide) rfl ?_
  refine w_icmp_ge (t := 29) dX10_sumOfDemands_12 (by decide) (fun h => ?_) (fun h => ?_)
  · replace H := H.1 h
    refine w_iload_n dX10_sumOfDemands_29 rfl rfl ?_
    exact w_iret dX10_sumOfDemands_30 rfl ⟨_, rfl, H⟩
  · replace H := H.2 h
    refine w_iload_n dX10_sumOfDemands_15 rfl rfl ?_
    refine w_aload_n dX10_sumOfDemands_16 rfl rfl ?_
    refine w_iload_n dX10_sumOfDemands_17 rfl rfl ?_
    refine w_callV (st := [.int l1]) (As := [.int l2]) dX10_sumOfDemands_18 ml_10_41 okX10_demandOf kd_44 (by decide) rfl rfl rfl (Nat.le_of_ble_eq_true rfl) (by decide) (Nat.le_of_ble_eq_true rfl) (wc_i H (fun r2 I1 H => ?_))
    refine w_iadd dX10_sumOfDemands_21 ?_
    refine w_istore_n (ls' := [some (.ref 44), some (.int (l1 + r2)), some (.int l2)]) dX10_sumOfDemands_22 rfl (by decide) rfl rfl ?_
    refine w_iinc (v := l2 + 1) (ls' := [some (.ref 44), some (.int (l1 + r2)), some (.int (l2 + 1))]) dX10_sumOfDemands_23 rfl rfl (by decide) rfl rfl ?_
    refine w_goto (t := 4) dX10_sumOfDemands_26 (by decide) ?_
    skip
    exact H
set_option maxRecDepth 20000 in
theorem rX10_sumOfDemands {I : MI} {Q : Int32 → MI → Prop} (H : (LX10_sumOfDemands_4 0 0 I Q)) : Wi mX10_sumOfDemands [.ref 44] I Q := by
  show WP mX10_sumOfDemands 286 Rf0 0 [some (.ref 44), none, none] [] I (qi Q)
  refine w_iconst (v := 0) dX10_sumOfDemands_0 (by decide) ?_
  refine w_istore_n (ls' := [some (.ref 44), some (.int 0), none]) dX10_sumOfDemands_1 rfl (by decide) rfl rfl ?_
  refine w_iconst (v := 0) dX10_sumOfDemands_2 (by decide) ?_
  refine w_istore_n (ls' := [some (.ref 44), some (.int 0), some (.int 0)]) dX10_sumOfDemands_3 rfl (by decide) rfl rfl ?_
  skip
  exact H
theorem dX10_stopSet_0 : decode cX10_stopSet 0 = .ok (.iconst 0, 1) := by decide +kernel
theorem dX10_stopSet_1 : decode cX10_stopSet 1 = .ok (.istore_n 1, 1) := by decide +kernel
theorem dX10_stopSet_2 : decode cX10_stopSet 2 = .ok (.iconst 0, 1) := by decide +kernel
theorem dX10_stopSet_3 : decode cX10_stopSet 3 = .ok (.istore_n 2, 1) := by decide +kernel
theorem dX10_stopSet_4 : decode cX10_stopSet 4 = .ok (.iload_n 2, 1) := by decide +kernel
theorem dX10_stopSet_5 : decode cX10_stopSet 5 = .ok (.aload_n 0, 1) := by decide +kernel
theorem dX10_stopSet_6 : decode cX10_stopSet 6 = .ok (.getfield 9, 3) := by decide +kernel
theorem dX10_stopSet_9 : decode cX10_stopSet 9 = .ok (.getfield 33, 3) := by decide +kernel
theorem dX10_stopSet_12 : decode cX10_stopSet 12 = .ok (.if_icmp .ge 31, 3) := by decide +kernel
theorem dX10_stopSet_15 : decode cX10_stopSet 15 = .ok (.aload_n 0, 1) := by decide +kernel
theorem dX10_stopSet_16 : decode cX10_stopSet 16 = .ok (.iload_n 2, 1) := by decide +kernel
theorem dX10_stopSet_17 : decode cX10_stopSet 17 = .ok (.invokevirtual 41, 3) := by decide +kernel
theorem dX10_stopSet_20 : decode cX10_stopSet 20 = .ok (.ifCond .le 17, 3) := by decide +kernel
theorem dX10_stopSet_23 : decode cX10_stopSet 23 = .ok (.iload_n 1, 1) := by decide +kernel
theorem dX10_stopSet_24 : decode cX10_stopSet 24 = .ok (.iconst 1, 1) := by decide +kernel
theorem dX10_stopSet_25 : decode cX10_stopSet 25 = .ok (.aload_n 0, 1) := by decide +kernel
theorem dX10_stopSet_26 : decode cX10_stopSet 26 = .ok (.getfield 9, 3) := by decide +kernel
theorem dX10_stopSet_29 : decode cX10_stopSet 29 = .ok (.getfield 38, 3) := by decide +kernel
theorem dX10_stopSet_32 : decode cX10_stopSet 32 = .ok (.iload_n 2, 1) := by decide +kernel
theorem dX10_stopSet_33 : decode cX10_stopSet 33 = .ok (.iaload, 1) := by decide +kernel
theorem dX10_stopSet_34 : decode cX10_stopSet 34 = .ok (.ishl, 1) := by decide +kernel
theorem dX10_stopSet_35 : decode cX10_stopSet 35 = .ok (.ior, 1) := by decide +kernel
theorem dX10_stopSet_36 : decode cX10_stopSet 36 = .ok (.istore_n 1, 1) := by decide +kernel
theorem dX10_stopSet_37 : decode cX10_stopSet 37 = .ok (.iinc 2 1, 3) := by decide +kernel
theorem dX10_stopSet_40 : decode cX10_stopSet 40 = .ok (.goto (-36), 3) := by decide +kernel
theorem dX10_stopSet_43 : decode cX10_stopSet 43 = .ok (.iload_n 1, 1) := by decide +kernel
theorem dX10_stopSet_44 : decode cX10_stopSet 44 = .ok (.ireturn, 1) := by decide +kernel
abbrev LX10_stopSet_4 (l1 l2 : Int32) (I : MI) (Q : Int32 → MI → Prop) : Prop := WP mX10_stopSet 286 Rf0 4 [some (.ref 44), some (.int l1), some (.int l2)] [] I (qi Q)
abbrev LX10_stopSet_37 (l1 l2 : Int32) (I : MI) (Q : Int32 → MI → Prop) : Prop := WP mX10_stopSet 286 Rf0 37 [some (.ref 44), some (.int l1), some (.int l2)] [] I (qi Q)
set_option maxRecDepth 20000 in
theorem rX10_stopSet_4 {l1 l2 : Int32} {I : MI} {Q : Int32 → MI → Prop} (H : (((I 24 2) ≤ l2 → (Q l1 I)) ∧ (¬ (I 24 2) ≤ l2 → (Wi mX10_demandOf [.ref 44, .int l2] I (fun r2 I1 => ((r2 ≤ 0 → (LX10_stopSet_37 l1 l2 I1 Q)) ∧ (¬ r2 ≤ 0 → (vp_in l2 12 ∧ LX10_stopSet_37 (l1 ||| (1 <<< ((I1 28 l2.toNatClampNeg) &&& 31))) l2 I1 Q)))))))) : LX10_stopSet_4 l1 l2 I Q := by
  show WP mX10_stopSet 286 Rf0 4 [some (.ref 44), some (.int l1), some (.int l2)] [] I (qi Q)
  refine w_iload_n dX10_stopSet_4 rfl rfl ?_
  refine w_aload_n dX10_stopSet_5 rfl rfl ?_
  refine w_getR dX10_stopSet_6 fl_10_9 okC10 kd_44 (by decide) (by decide) rfl rf_44_0 ?_
  refine w_getI dX10_stopSet_9 fl_10_33 okC6 kd_24 (by decide) (by decide) rfl ?_
  refine w_icmp_ge (t := 43) dX10_stopSet_12 (by decide) (fun h => ?_) (fun h => ?_)
  · replace H := H.1 h
    refine w_iload_n dX10_stopSet_43 rfl rfl ?_
    exact w_iret dX10_stopSet_44 rfl ⟨_, rfl, H⟩
  · replace H := H.2 h
    refine w_aload_n dX10_stopSet_15 rfl rfl ?_
    refine w_iload_n dX10_stopSet_16 rfl rfl ?_
    refine w_callV (st := []) (As := [.int l2]) dX10_stopSet_17 ml_10_41 okX10_demandOf kd_44 (by decide) rfl rfl rfl (Nat.le_of_ble_eq_true rfl) (by decide) (Nat.le_of_ble_eq_true rfl) (wc_i H (fun r2 I1 H => ?_))
    refine w_if_le (t := 37) dX10_stopSet_20 (by decide) (fun h => ?_) (fun h => ?_)
    · replace H := H.1 h
      skip
      exact H
    · replace H := H.2 h
      refine w_iload_n dX10_stopSet_23 rfl rfl ?_
      refine w_iconst (v := 1) dX10_stopSet_24 (by decide) ?_
      refine w_aload_n dX10_stopSet_25 rfl rfl ?_
      refine w_getR dX10_stopSet_26 fl_10_9 okC10 kd_44 (by decide) (by decide) rfl rf_44_0 ?_
      refine w_getR dX10_stopSet_29 fl_10_38 okC6 kd_24 (by decide) (by decide) rfl rf_24_10 ?_
      refine w_iload_n dX10_stopSet_32 rfl rfl ?_
      refine w_iald dX10_stopSet_33 kd_28 (by decide) H.1 ?_
      replace H := H.2
      refine w_ishl dX10_stopSet_34 ?_
      refine w_ior dX10_stopSet_35 ?_
      refine w_istore_n (ls' := [some (.ref 44), some (.int (l1 ||| (1 <<< ((I1 28 l2.toNatClampNeg) &&& 31)))), some (.int l2)]) dX10_stopSet_36 rfl (by decide) rfl rfl ?_
      skip
      exact H
set_option maxRecDepth 20000 in
theorem rX10_stopSet_37 {l1 l2 : Int32} {I : MI} {Q : Int32 → MI → Prop} (H : (LX10_stopSet_4 l1 (l2 + 1) I Q)) : LX10_stopSet_37 l1 l2 I Q := by
  show WP mX10_stopSet 286 Rf0 37 [some (.ref 44), some (.int l1), some (.int l2)] [] I (qi Q)
  refine w_iinc (v := l2 + 1) (ls' := [some (.ref 44), some (.int l1), some (.int (l2 + 1))]) dX10_stopSet_37 rfl rfl (by decide) rfl rfl ?_
  refine w_goto (t := 4) dX10_stopSet_40 (by decide) ?_
  skip
  exact H
set_option maxRecDepth 20000 in
theorem rX10_stopSet {I : MI} {Q : Int32 → MI → Prop} (H : (LX10_stopSet_4 0 0 I Q)) : Wi mX10_stopSet [.ref 44] I Q := by
  show WP mX10_stopSet 286 Rf0 0 [some (.ref 44), none, none] [] I (qi Q)
  refine w_iconst (v := 0) dX10_stopSet_0 (by decide) ?_
  refine w_istore_n (ls' := [some (.ref 44), some (.int 0), none]) dX10_stopSet_1 rfl (by decide) rfl rfl ?_
  refine w_iconst (v := 0) dX10_stopSet_2 (by decide) ?_
  refine w_istore_n (ls' := [some (.ref 44), some (.int 0), some (.int 0)]) dX10_stopSet_3 rfl (by decide) rfl rfl ?_
  skip
  exact H
theorem dX12_through_0 : decode cX12_through 0 = .ok (.aload_n 0, 1) := by decide +kernel
theorem dX12_through_1 : decode cX12_through 1 = .ok (.getfield 47, 3) := by decide +kernel
theorem dX12_through_4 : decode cX12_through 4 = .ok (.bipush 97, 2) := by decide +kernel
theorem dX12_through_6 : decode cX12_through 6 = .ok (.iload_n 1, 1) := by decide +kernel
theorem dX12_through_7 : decode cX12_through 7 = .ok (.iadd, 1) := by decide +kernel
theorem dX12_through_8 : decode cX12_through 8 = .ok (.iaload, 1) := by decide +kernel
theorem dX12_through_9 : decode cX12_through 9 = .ok (.istore_n 3, 1) := by decide +kernel
theorem dX12_through_10 : decode cX12_through 10 = .ok (.iload_n 3, 1) := by decide +kernel
theorem dX12_through_11 : decode cX12_through 11 = .ok (.ifCond .ge 12, 3) := by decide +kernel
theorem dX12_through_14 : decode cX12_through 14 = .ok (.iload_n 2, 1) := by decide +kernel
theorem dX12_through_15 : decode cX12_through 15 = .ok (.aload_n 0, 1) := by decide +kernel
theorem dX12_through_16 : decode cX12_through 16 = .ok (.getfield 26, 3) := by decide +kernel
theorem dX12_through_19 : decode cX12_through 19 = .ok (.iload_n 1, 1) := by decide +kernel
theorem dX12_through_20 : decode cX12_through 20 = .ok (.iaload, 1) := by decide +kernel
theorem dX12_through_21 : decode cX12_through 21 = .ok (.iadd, 1) := by decide +kernel
theorem dX12_through_22 : decode cX12_through 22 = .ok (.ireturn, 1) := by decide +kernel
theorem dX12_through_23 : decode cX12_through 23 = .ok (.iload_n 2, 1) := by decide +kernel
theorem dX12_through_24 : decode cX12_through 24 = .ok (.aload_n 0, 1) := by decide +kernel
theorem dX12_through_25 : decode cX12_through 25 = .ok (.getfield 47, 3) := by decide +kernel
theorem dX12_through_28 : decode cX12_through 28 = .ok (.bipush 115, 2) := by decide +kernel
theorem dX12_through_30 : decode cX12_through 30 = .ok (.iload_n 1, 1) := by decide +kernel
theorem dX12_through_31 : decode cX12_through 31 = .ok (.iadd, 1) := by decide +kernel
theorem dX12_through_32 : decode cX12_through 32 = .ok (.iaload, 1) := by decide +kernel
theorem dX12_through_33 : decode cX12_through 33 = .ok (.if_icmp .lt 8, 3) := by decide +kernel
theorem dX12_through_36 : decode cX12_through 36 = .ok (.ldc 205, 2) := by decide +kernel
theorem dX12_through_38 : decode cX12_through 38 = .ok (.goto 20, 3) := by decide +kernel
theorem dX12_through_41 : decode cX12_through 41 = .ok (.iload_n 2, 1) := by decide +kernel
theorem dX12_through_42 : decode cX12_through 42 = .ok (.iload_n 3, 1) := by decide +kernel
theorem dX12_through_43 : decode cX12_through 43 = .ok (.if_icmp .ge 7, 3) := by decide +kernel
theorem dX12_through_46 : decode cX12_through 46 = .ok (.iload_n 3, 1) := by decide +kernel
theorem dX12_through_47 : decode cX12_through 47 = .ok (.goto 4, 3) := by decide +kernel
theorem dX12_through_50 : decode cX12_through 50 = .ok (.iload_n 2, 1) := by decide +kernel
theorem dX12_through_51 : decode cX12_through 51 = .ok (.aload_n 0, 1) := by decide +kernel
theorem dX12_through_52 : decode cX12_through 52 = .ok (.getfield 26, 3) := by decide +kernel
theorem dX12_through_55 : decode cX12_through 55 = .ok (.iload_n 1, 1) := by decide +kernel
theorem dX12_through_56 : decode cX12_through 56 = .ok (.iaload, 1) := by decide +kernel
theorem dX12_through_57 : decode cX12_through 57 = .ok (.iadd, 1) := by decide +kernel
theorem dX12_through_58 : decode cX12_through 58 = .ok (.ireturn, 1) := by decide +kernel
abbrev LX12_through_51 (l1 l2 l3 t0 : Int32) (I : MI) (Q : Int32 → MI → Prop) : Prop := WP mX12_through 286 Rf0 51 [some (.ref 261), some (.int l1), some (.int l2), some (.int l3)] [.int t0] I (qi Q)
set_option maxRecDepth 20000 in
theorem rX12_through_51 {l1 l2 l3 t0 : Int32} {I : MI} {Q : Int32 → MI → Prop} (H : (vp_in l1 36 ∧ Q (t0 + (I 267 l1.toNatClampNeg)) I)) : LX12_through_51 l1 l2 l3 t0 I Q := by
  show WP mX12_through 286 Rf0 51 [some (.ref 261), some (.int l1), some (.int l2), some (.int l3)] [.int t0] I (qi Q)
  refine w_aload_n dX12_through_51 rfl rfl ?_
  refine w_getR dX12_through_52 fl_12_26 okC12 kd_261 (by decide) (by decide) rfl rf_261_14 ?_
  refine w_iload_n dX12_through_55 rfl rfl ?_
  refine w_iald dX12_through_56 kd_267 (by decide) H.1 ?_
  replace H := H.2
  refine w_iadd dX12_through_57 ?_
  exact w_iret dX12_through_58 rfl ⟨_, rfl, H⟩
set_option maxRecDepth 20000 in
theorem rX12_through {a1 a2 : Int32} {I : MI} {Q : Int32 → MI → Prop} (H : (vp_in (97 + a1) 332 ∧ (0 ≤ (I 274 (97 + a1).toNatClampNeg) → (vp_in (115 + a1) 332 ∧ (a2 < (I 274 (115 + a1).toNatClampNeg) → (((I 274 (97 + a1).toNatClampNeg) ≤ a2 → (LX12_through_51 a1 a2 (I 274 (97 + a1).toNatClampNeg) a2 I Q)) ∧ (¬ (I 274 (97 + a1).toNatClampNeg) ≤ a2 → (LX12_through_51 a1 a2 (I 274 (97 + a1).toNatClampNeg) (I 274 (97 + a1).toNatClampNeg) I Q)))) ∧ (¬ a2 < (I 274 (115 + a1).toNatClampNeg) → (Q 1000000000 I)))) ∧ (¬ 0 ≤ (I 274 (97 + a1).toNatClampNeg) → (vp_in a1 36 ∧ Q (a2 + (I 267 a1.toNatClampNeg)) I)))) : Wi mX12_through [.ref 261, .int a1, .int a2] I Q := by
  show WP mX12_through 286 Rf0 0 [some (.ref 261), some (.int a1), some (.int a2), none] [] I (qi Q)
  refine w_aload_n dX12_through_0 rfl rfl ?_
  refine w_getR dX12_through_1 fl_12_47 okC12 kd_261 (by decide) (by decide) rfl rf_261_22 ?_
  refine w_bipush (v := 97) dX12_through_4 (by decide) ?_
  refine w_iload_n dX12_through_6 rfl rfl ?_
  refine w_iadd dX12_through_7 ?_
  refine w_iald dX12_through_8 kd_274 (by decide) H.1 ?_
  replace H := H.2
  refine w_istore_n (ls' := [some (.ref 261), some (.int a1), some (.int a2), some (.int (I 274 (97 + a1).toNatClampNeg))]) dX12_through_9 rfl (by decide) rfl rfl ?_
  refine w_iload_n dX12_through_10 rfl rfl ?_
  refine w_if_ge (t := 23) dX12_through_11 (by decide) (fun h => ?_) (fun h => ?_)
  · replace H := H.1 h
    refine w_iload_n dX12_through_23 rfl rfl ?_
    refine w_aload_n dX12_through_24 rfl rfl ?_
    refine w_getR dX12_through_25 fl_12_47 okC12 kd_261 (by decide) (by decide) rfl rf_261_22 ?_
    refine w_bipush (v := 115) dX12_through_28 (by decide) ?_
    refine w_iload_n dX12_through_30 rfl rfl ?_
    refine w_iadd dX12_through_31 ?_
    refine w_iald dX12_through_32 kd_274 (by decide) H.1 ?_
    replace H := H.2
    refine w_icmp_lt (t := 41) dX12_through_33 (by decide) (fun h => ?_) (fun h => ?_)
    · replace H := H.1 h
      refine w_iload_n dX12_through_41 rfl rfl ?_
      refine w_iload_n dX12_through_42 rfl rfl ?_
      refine w_icmp_ge (t := 50) dX12_through_43 (by decide) (fun h => ?_) (fun h => ?_)
      · replace H := H.1 h
        refine w_iload_n dX12_through_50 rfl rfl ?_
        skip
        exact H
      · replace H := H.2 h
        refine w_iload_n dX12_through_46 rfl rfl ?_
        refine w_goto (t := 51) dX12_through_47 (by decide) ?_
        skip
        exact H
    · replace H := H.2 h
      refine w_ldc (v := 1000000000) dX12_through_36 kl_12_205 ?_
      refine w_goto (t := 58) dX12_through_38 (by decide) ?_
      exact w_iret dX12_through_58 rfl ⟨_, rfl, H⟩
  · replace H := H.2 h
    refine w_iload_n dX12_through_14 rfl rfl ?_
    refine w_aload_n dX12_through_15 rfl rfl ?_
    refine w_getR dX12_through_16 fl_12_26 okC12 kd_261 (by decide) (by decide) rfl rf_261_14 ?_
    refine w_iload_n dX12_through_19 rfl rfl ?_
    refine w_iald dX12_through_20 kd_267 (by decide) H.1 ?_
    replace H := H.2
    refine w_iadd dX12_through_21 ?_
    exact w_iret dX12_through_22 rfl ⟨_, rfl, H⟩
