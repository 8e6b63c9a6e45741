theorem dX12_within_0 : decode cX12_within 0 = .ok (.lload_n 0, 1) := by decide +kernel
theorem dX12_within_1 : decode cX12_within 1 = .ok (.lload_n 2, 1) := by decide +kernel
theorem dX12_within_2 : decode cX12_within 2 = .ok (.lcmp, 1) := by decide +kernel
theorem dX12_within_3 : decode cX12_within 3 = .ok (.ifCond .lt 14, 3) := by decide +kernel
theorem dX12_within_6 : decode cX12_within 6 = .ok (.lload_n 0, 1) := by decide +kernel
theorem dX12_within_7 : decode cX12_within 7 = .ok (.lload 4, 2) := by decide +kernel
theorem dX12_within_9 : decode cX12_within 9 = .ok (.lcmp, 1) := by decide +kernel
theorem dX12_within_10 : decode cX12_within 10 = .ok (.ifCond .gt 7, 3) := by decide +kernel
theorem dX12_within_13 : decode cX12_within 13 = .ok (.iconst 1, 1) := by decide +kernel
theorem dX12_within_14 : decode cX12_within 14 = .ok (.goto 4, 3) := by decide +kernel
theorem dX12_within_17 : decode cX12_within 17 = .ok (.iconst 0, 1) := by decide +kernel
theorem dX12_within_18 : decode cX12_within 18 = .ok (.ireturn, 1) := by decide +kernel
set_option maxRecDepth 20000 in
theorem rX12_within {a1 a2 a3 : Int64} {I : MI} {Q : Int32 → MI → Prop} (H : (((lg_cmp a1 a2) < 0 → (Q 0 I)) ∧ (¬ (lg_cmp a1 a2) < 0 → ((0 < (lg_cmp a1 a3) → (Q 0 I)) ∧ (¬ 0 < (lg_cmp a1 a3) → (Q 1 I)))))) : Wi mX12_within [.long a1, .long a2, .long a3] I Q := by
  show WP mX12_within 286 Rf0 0 [some (.long a1), none, some (.long a2), none, some (.long a3), none] [] I (qi Q)
  refine w_lload_n dX12_within_0 rfl rfl ?_
  refine w_lload_n dX12_within_1 rfl rfl ?_
  refine w_lcmp dX12_within_2 ?_
  refine w_if_lt (t := 17) dX12_within_3 (by decide) (fun h => ?_) (fun h => ?_)
  · replace H := H.1 h
    refine w_iconst (v := 0) dX12_within_17 (by decide) ?_
    exact w_zret dX12_within_18 rfl rfl ⟨_, rfl, H⟩
  · replace H := H.2 h
    refine w_lload_n dX12_within_6 rfl rfl ?_
    refine w_lload dX12_within_7 rfl ?_
    refine w_lcmp dX12_within_9 ?_
    refine w_if_gt (t := 17) dX12_within_10 (by decide) (fun h => ?_) (fun h => ?_)
    · replace H := H.1 h
      refine w_iconst (v := 0) dX12_within_17 (by decide) ?_
      exact w_zret dX12_within_18 rfl rfl ⟨_, rfl, H⟩
    · replace H := H.2 h
      refine w_iconst (v := 1) dX12_within_13 (by decide) ?_
      refine w_goto (t := 18) dX12_within_14 (by decide) ?_
      exact w_zret dX12_within_18 rfl rfl ⟨_, rfl, H⟩
theorem dX12_appendInt_0 : decode cX12_appendInt 0 = .ok (.bipush 24, 2) := by decide +kernel
theorem dX12_appendInt_2 : decode cX12_appendInt 2 = .ok (.istore_n 2, 1) := by decide +kernel
theorem dX12_appendInt_3 : decode cX12_appendInt 3 = .ok (.iload_n 2, 1) := by decide +kernel
theorem dX12_appendInt_4 : decode cX12_appendInt 4 = .ok (.ifCond .lt 32, 3) := by decide +kernel
theorem dX12_appendInt_7 : decode cX12_appendInt 7 = .ok (.aload_n 0, 1) := by decide +kernel
theorem dX12_appendInt_8 : decode cX12_appendInt 8 = .ok (.getfield 7, 3) := by decide +kernel
theorem dX12_appendInt_11 : decode cX12_appendInt 11 = .ok (.aload_n 0, 1) := by decide +kernel
theorem dX12_appendInt_12 : decode cX12_appendInt 12 = .ok (.getfield 91, 3) := by decide +kernel
theorem dX12_appendInt_15 : decode cX12_appendInt 15 = .ok (.iload_n 1, 1) := by decide +kernel
theorem dX12_appendInt_16 : decode cX12_appendInt 16 = .ok (.iload_n 2, 1) := by decide +kernel
theorem dX12_appendInt_17 : decode cX12_appendInt 17 = .ok (.ishr, 1) := by decide +kernel
theorem dX12_appendInt_18 : decode cX12_appendInt 18 = .ok (.i2b, 1) := by decide +kernel
theorem dX12_appendInt_19 : decode cX12_appendInt 19 = .ok (.bastore, 1) := by decide +kernel
theorem dX12_appendInt_20 : decode cX12_appendInt 20 = .ok (.aload_n 0, 1) := by decide +kernel
theorem dX12_appendInt_21 : decode cX12_appendInt 21 = .ok (.dup, 1) := by decide +kernel
theorem dX12_appendInt_22 : decode cX12_appendInt 22 = .ok (.getfield 91, 3) := by decide +kernel
theorem dX12_appendInt_25 : decode cX12_appendInt 25 = .ok (.iconst 1, 1) := by decide +kernel
theorem dX12_appendInt_26 : decode cX12_appendInt 26 = .ok (.iadd, 1) := by decide +kernel
theorem dX12_appendInt_27 : decode cX12_appendInt 27 = .ok (.putfield 91, 3) := by decide +kernel
theorem dX12_appendInt_30 : decode cX12_appendInt 30 = .ok (.iinc 2 (-8), 3) := by decide +kernel
theorem dX12_appendInt_33 : decode cX12_appendInt 33 = .ok (.goto (-30), 3) := by decide +kernel
theorem dX12_appendInt_36 : decode cX12_appendInt 36 = .ok (.return_, 1) := by decide +kernel
abbrev LX12_appendInt_3 (l1 l2 : Int32) (I : MI) (Q : MI → Prop) : Prop := WP mX12_appendInt 286 Rf0 3 [some (.ref 261), some (.int l1), some (.int l2)] [] I (qv Q)
set_option maxRecDepth 20000 in
theorem rX12_appendInt_3 {l1 l2 : Int32} {I : MI} {Q : MI → Prop} (H : ((l2 < 0 → (Q I)) ∧ (¬ l2 < 0 → (vp_in (I 261 2) 900 ∧ ∀ I1 : MI, I1 = up2 I 262 (I 261 2).toNatClampNeg (vp_nar .byte ((l1 >>> (l2 &&& 31)).toInt8.toInt32)) → ∀ I2 : MI, I2 = up2 I1 261 2 ((I1 261 2) + 1) → LX12_appendInt_3 l1 (l2 + (-8)) I2 Q)))) : LX12_appendInt_3 l1 l2 I Q := by
  show WP mX12_appendInt 286 Rf0 3 [some (.ref 261), some (.int l1), some (.int l2)] [] I (qv Q)
  refine w_iload_n dX12_appendInt_3 rfl rfl ?_
  refine w_if_lt (t := 36) dX12_appendInt_4 (by decide) (fun h => ?_) (fun h => ?_)
  · replace H := H.1 h
    exact w_vret dX12_appendInt_36 rfl ⟨rfl, H⟩
  · replace H := H.2 h
    refine w_aload_n dX12_appendInt_7 rfl rfl ?_
    refine w_getR dX12_appendInt_8 fl_12_7 okC12 kd_261 (by decide) (by decide) rfl rf_261_1 ?_
    refine w_aload_n dX12_appendInt_11 rfl rfl ?_
    refine w_getI dX12_appendInt_12 fl_12_91 okC12 kd_261 (by decide) (by decide) rfl ?_
    refine w_iload_n dX12_appendInt_15 rfl rfl ?_
    refine w_iload_n dX12_appendInt_16 rfl rfl ?_
    refine w_ishr dX12_appendInt_17 ?_
    refine w_i2b dX12_appendInt_18 ?_
    refine w_bast dX12_appendInt_19 kd_262 (by decide) H.1 (w_up fun I1 hI => ?_)
    replace H := H.2 I1 hI
    refine w_aload_n dX12_appendInt_20 rfl rfl ?_
    refine w_dup dX12_appendInt_21 rfl ?_
    refine w_getI dX12_appendInt_22 fl_12_91 okC12 kd_261 (by decide) (by decide) rfl ?_
    refine w_iconst (v := 1) dX12_appendInt_25 (by decide) ?_
    refine w_iadd dX12_appendInt_26 ?_
    refine w_putI dX12_appendInt_27 fl_12_91 okC12 kd_261 (by decide) (by decide) rfl rfl rfl (w_up fun I2 hI => ?_)
    replace H := H I2 hI
    refine w_iinc (v := l2 + (-8)) (ls' := [some (.ref 261), some (.int l1), some (.int (l2 + (-8)))]) dX12_appendInt_30 rfl rfl (by decide) rfl rfl ?_
    refine w_goto (t := 3) dX12_appendInt_33 (by decide) ?_
    skip
    exact H
set_option maxRecDepth 20000 in
theorem rX12_appendInt {a1 : Int32} {I : MI} {Q : MI → Prop} (H : (LX12_appendInt_3 a1 24 I Q)) : Wv mX12_appendInt [.ref 261, .int a1] I Q := by
  show WP mX12_appendInt 286 Rf0 0 [some (.ref 261), some (.int a1), none] [] I (qv Q)
  refine w_bipush (v := 24) dX12_appendInt_0 (by decide) ?_
  refine w_istore_n (ls' := [some (.ref 261), some (.int a1), some (.int 24)]) dX12_appendInt_2 rfl (by decide) rfl rfl ?_
  skip
  exact H
theorem dX12_append_0 : decode cX12_append 0 = .ok (.aload_n 0, 1) := by decide +kernel
theorem dX12_append_1 : decode cX12_append 1 = .ok (.iconst 0, 1) := by decide +kernel
theorem dX12_append_2 : decode cX12_append 2 = .ok (.putfield 87, 3) := by decide +kernel
theorem dX12_append_5 : decode cX12_append 5 = .ok (.aload_n 0, 1) := by decide +kernel
theorem dX12_append_6 : decode cX12_append 6 = .ok (.getfield 91, 3) := by decide +kernel
theorem dX12_append_9 : decode cX12_append 9 = .ok (.bipush 20, 2) := by decide +kernel
theorem dX12_append_11 : decode cX12_append 11 = .ok (.iadd, 1) := by decide +kernel
theorem dX12_append_12 : decode cX12_append 12 = .ok (.sipush 900, 3) := by decide +kernel
theorem dX12_append_15 : decode cX12_append 15 = .ok (.if_icmp .le 5, 3) := by decide +kernel
theorem dX12_append_18 : decode cX12_append 18 = .ok (.iconst (-1), 1) := by decide +kernel
theorem dX12_append_19 : decode cX12_append 19 = .ok (.ireturn, 1) := by decide +kernel
theorem dX12_append_20 : decode cX12_append 20 = .ok (.aload_n 0, 1) := by decide +kernel
theorem dX12_append_21 : decode cX12_append 21 = .ok (.iload_n 1, 1) := by decide +kernel
theorem dX12_append_22 : decode cX12_append 22 = .ok (.invokevirtual 94, 3) := by decide +kernel
theorem dX12_append_25 : decode cX12_append 25 = .ok (.aload_n 0, 1) := by decide +kernel
theorem dX12_append_26 : decode cX12_append 26 = .ok (.iload_n 2, 1) := by decide +kernel
theorem dX12_append_27 : decode cX12_append 27 = .ok (.invokevirtual 94, 3) := by decide +kernel
theorem dX12_append_30 : decode cX12_append 30 = .ok (.aload_n 0, 1) := by decide +kernel
theorem dX12_append_31 : decode cX12_append 31 = .ok (.iload_n 3, 1) := by decide +kernel
theorem dX12_append_32 : decode cX12_append 32 = .ok (.invokevirtual 94, 3) := by decide +kernel
theorem dX12_append_35 : decode cX12_append 35 = .ok (.aload_n 0, 1) := by decide +kernel
theorem dX12_append_36 : decode cX12_append 36 = .ok (.iload 4, 2) := by decide +kernel
theorem dX12_append_38 : decode cX12_append 38 = .ok (.invokevirtual 94, 3) := by decide +kernel
theorem dX12_append_41 : decode cX12_append 41 = .ok (.aload_n 0, 1) := by decide +kernel
theorem dX12_append_42 : decode cX12_append 42 = .ok (.iload 5, 2) := by decide +kernel
theorem dX12_append_44 : decode cX12_append 44 = .ok (.invokevirtual 94, 3) := by decide +kernel
theorem dX12_append_47 : decode cX12_append 47 = .ok (.aload_n 0, 1) := by decide +kernel
theorem dX12_append_48 : decode cX12_append 48 = .ok (.getfield 91, 3) := by decide +kernel
theorem dX12_append_51 : decode cX12_append 51 = .ok (.ireturn, 1) := by decide +kernel
set_option maxRecDepth 20000 in
theorem rX12_append {a1 a2 a3 a4 a5 : Int32} {I : MI} {Q : Int32 → MI → Prop} (H : (∀ I1 : MI, I1 = up2 I 261 0 0 → (((I1 261 2) + 20) ≤ 900 → (Wv mX12_appendInt [.ref 261, .int a1] I1 (fun I2 => (Wv mX12_appendInt [.ref 261, .int a2] I2 (fun I3 => (Wv mX12_appendInt [.ref 261, .int a3] I3 (fun I4 => (Wv mX12_appendInt [.ref 261, .int a4] I4 (fun I5 => (Wv mX12_appendInt [.ref 261, .int a5] I5 (fun I6 => (Q (I6 261 2) I6)))))))))))) ∧ (¬ ((I1 261 2) + 20) ≤ 900 → (Q (-1) I1)))) : Wi mX12_append [.ref 261, .int a1, .int a2, .int a3, .int a4, .int a5] I Q := by
  show WP mX12_append 286 Rf0 0 [some (.ref 261), some (.int a1), some (.int a2), some (.int a3), some (.int a4), some (.int a5)] [] I (qi Q)
  refine w_aload_n dX12_append_0 rfl rfl ?_
  refine w_iconst (v := 0) dX12_append_1 (by decide) ?_
  refine w_putI dX12_append_2 fl_12_87 okC12 kd_261 (by decide) (by decide) rfl rfl rfl (w_up fun I1 hI => ?_)
  replace H := H I1 hI
  refine w_aload_n dX12_append_5 rfl rfl ?_
  refine w_getI dX12_append_6 fl_12_91 okC12 kd_261 (by decide) (by decide) rfl ?_
  refine w_bipush (v := 20) dX12_append_9 (by decide) ?_
  refine w_iadd dX12_append_11 ?_
  refine w_sipush (v := 900) dX12_append_12 (by decide) ?_
  refine w_icmp_le (t := 20) dX12_append_15 (by decide) (fun h => ?_) (fun h => ?_)
  · replace H := H.1 h
    refine w_aload_n dX12_append_20 rfl rfl ?_
    refine w_iload_n dX12_append_21 rfl rfl ?_
    refine w_callV (st := []) (As := [.int a1]) dX12_append_22 ml_12_94 okX12_appendInt kd_261 (by decide) rfl rfl rfl (Nat.le_of_ble_eq_true rfl) (by decide) (Nat.le_of_ble_eq_true rfl) (wc_v H (fun I2 H => ?_))
    refine w_aload_n dX12_append_25 rfl rfl ?_
    refine w_iload_n dX12_append_26 rfl rfl ?_
    refine w_callV (st := []) (As := [.int a2]) dX12_append_27 ml_12_94 okX12_appendInt kd_261 (by decide) rfl rfl rfl (Nat.le_of_ble_eq_true rfl) (by decide) (Nat.le_of_ble_eq_true rfl) (wc_v H (fun I3 H => ?_))
    refine w_aload_n dX12_append_30 rfl rfl ?_
    refine w_iload_n dX12_append_31 rfl rfl ?_
    refine w_callV (st := []) (As := [.int a3]) dX12_append_32 ml_12_94 okX12_appendInt kd_261 (by decide) rfl rfl rfl (Nat.le_of_ble_eq_true rfl) (by decide) (Nat.le_of_ble_eq_true rfl) (wc_v H (fun I4 H => ?_))
    refine w_aload_n dX12_append_35 rfl rfl ?_
    refine w_iload dX12_append_36 rfl ?_
    refine w_callV (st := []) (As := [.int a4]) dX12_append_38 ml_12_94 okX12_appendInt kd_261 (by decide) rfl rfl rfl (Nat.le_of_ble_eq_true rfl) (by decide) (Nat.le_of_ble_eq_true rfl) (wc_v H (fun I5 H => ?_))
    refine w_aload_n dX12_append_41 rfl rfl ?_
    refine w_iload dX12_append_42 rfl ?_
    refine w_callV (st := []) (As := [.int a5]) dX12_append_44 ml_12_94 okX12_appendInt kd_261 (by decide) rfl rfl rfl (Nat.le_of_ble_eq_true rfl) (by decide) (Nat.le_of_ble_eq_true rfl) (wc_v H (fun I6 H => ?_))
    refine w_aload_n dX12_append_47 rfl rfl ?_
    refine w_getI dX12_append_48 fl_12_91 okC12 kd_261 (by decide) (by decide) rfl ?_
    exact w_iret dX12_append_51 rfl ⟨_, rfl, H⟩
  · replace H := H.2 h
    refine w_iconst (v := (-1)) dX12_append_18 (by decide) ?_
    exact w_iret dX12_append_19 rfl ⟨_, rfl, H⟩
theorem dX12_byteAt_0 : decode cX12_byteAt 0 = .ok (.iload_n 1, 1) := by decide +kernel
theorem dX12_byteAt_1 : decode cX12_byteAt 1 = .ok (.aload_n 0, 1) := by decide +kernel
theorem dX12_byteAt_2 : decode cX12_byteAt 2 = .ok (.getfield 98, 3) := by decide +kernel
theorem dX12_byteAt_5 : decode cX12_byteAt 5 = .ok (.if_icmp .ge 16, 3) := by decide +kernel
theorem dX12_byteAt_8 : decode cX12_byteAt 8 = .ok (.aload_n 0, 1) := by decide +kernel
theorem dX12_byteAt_9 : decode cX12_byteAt 9 = .ok (.getfield 7, 3) := by decide +kernel
theorem dX12_byteAt_12 : decode cX12_byteAt 12 = .ok (.iload_n 1, 1) := by decide +kernel
theorem dX12_byteAt_13 : decode cX12_byteAt 13 = .ok (.baload, 1) := by decide +kernel
theorem dX12_byteAt_14 : decode cX12_byteAt 14 = .ok (.sipush 255, 3) := by decide +kernel
theorem dX12_byteAt_17 : decode cX12_byteAt 17 = .ok (.iand, 1) := by decide +kernel
theorem dX12_byteAt_18 : decode cX12_byteAt 18 = .ok (.goto 4, 3) := by decide +kernel
theorem dX12_byteAt_21 : decode cX12_byteAt 21 = .ok (.iconst (-1), 1) := by decide +kernel
theorem dX12_byteAt_22 : decode cX12_byteAt 22 = .ok (.ireturn, 1) := by decide +kernel
set_option maxRecDepth 20000 in
theorem rX12_byteAt {a1 : Int32} {I : MI} {Q : Int32 → MI → Prop} (H : (((I 261 3) ≤ a1 → (Q (-1) I)) ∧ (¬ (I 261 3) ≤ a1 → (vp_in a1 900 ∧ Q ((I 262 a1.toNatClampNeg) &&& (255 : Int32)) I)))) : Wi mX12_byteAt [.ref 261, .int a1] I Q := by
  show WP mX12_byteAt 286 Rf0 0 [some (.ref 261), some (.int a1)] [] I (qi Q)
  refine w_iload_n dX12_byteAt_0 rfl rfl ?_
  refine w_aload_n dX12_byteAt_1 rfl rfl ?_
  refine w_getI dX12_byteAt_2 fl_12_98 okC12 kd_261 (by decide) (by decide) rfl ?_
  refine w_icmp_ge (t := 21) dX12_byteAt_5 (by decide) (fun h => ?_) (fun h => ?_)
  · replace H := H.1 h
    refine w_iconst (v := (-1)) dX12_byteAt_21 (by decide) ?_
    exact w_iret dX12_byteAt_22 rfl ⟨_, rfl, H⟩
  · replace H := H.2 h
    refine w_aload_n dX12_byteAt_8 rfl rfl ?_
    refine w_getR dX12_byteAt_9 fl_12_7 okC12 kd_261 (by decide) (by decide) rfl rf_261_1 ?_
    refine w_iload_n dX12_byteAt_12 rfl rfl ?_
    refine w_bald dX12_byteAt_13 kd_262 (by decide) H.1 ?_
    replace H := H.2
    refine w_sipush (v := 255) dX12_byteAt_14 (by decide) ?_
    refine w_iand dX12_byteAt_17 ?_
    refine w_goto (t := 22) dX12_byteAt_18 (by decide) ?_
    exact w_iret dX12_byteAt_22 rfl ⟨_, rfl, H⟩
theorem dX12_nextToken_0 : decode cX12_nextToken 0 = .ok (.aload_n 0, 1) := by decide +kernel
theorem dX12_nextToken_1 : decode cX12_nextToken 1 = .ok (.aload_n 0, 1) := by decide +kernel
theorem dX12_nextToken_2 : decode cX12_nextToken 2 = .ok (.getfield 101, 3) := by decide +kernel
theorem dX12_nextToken_5 : decode cX12_nextToken 5 = .ok (.putfield 104, 3) := by decide +kernel
theorem dX12_nextToken_8 : decode cX12_nextToken 8 = .ok (.aload_n 0, 1) := by decide +kernel
theorem dX12_nextToken_9 : decode cX12_nextToken 9 = .ok (.aload_n 0, 1) := by decide +kernel
theorem dX12_nextToken_10 : decode cX12_nextToken 10 = .ok (.getfield 104, 3) := by decide +kernel
theorem dX12_nextToken_13 : decode cX12_nextToken 13 = .ok (.invokevirtual 107, 3) := by decide +kernel
theorem dX12_nextToken_16 : decode cX12_nextToken 16 = .ok (.bipush 32, 2) := by decide +kernel
theorem dX12_nextToken_18 : decode cX12_nextToken 18 = .ok (.if_icmp .eq 16, 3) := by decide +kernel
theorem dX12_nextToken_21 : decode cX12_nextToken 21 = .ok (.aload_n 0, 1) := by decide +kernel
theorem dX12_nextToken_22 : decode cX12_nextToken 22 = .ok (.aload_n 0, 1) := by decide +kernel
theorem dX12_nextToken_23 : decode cX12_nextToken 23 = .ok (.getfield 104, 3) := by decide +kernel
theorem dX12_nextToken_26 : decode cX12_nextToken 26 = .ok (.invokevirtual 107, 3) := by decide +kernel
theorem dX12_nextToken_29 : decode cX12_nextToken 29 = .ok (.bipush 10, 2) := by decide +kernel
theorem dX12_nextToken_31 : decode cX12_nextToken 31 = .ok (.if_icmp .ne 16, 3) := by decide +kernel
theorem dX12_nextToken_34 : decode cX12_nextToken 34 = .ok (.aload_n 0, 1) := by decide +kernel
theorem dX12_nextToken_35 : decode cX12_nextToken 35 = .ok (.dup, 1) := by decide +kernel
theorem dX12_nextToken_36 : decode cX12_nextToken 36 = .ok (.getfield 104, 3) := by decide +kernel
theorem dX12_nextToken_39 : decode cX12_nextToken 39 = .ok (.iconst 1, 1) := by decide +kernel
theorem dX12_nextToken_40 : decode cX12_nextToken 40 = .ok (.iadd, 1) := by decide +kernel
theorem dX12_nextToken_41 : decode cX12_nextToken 41 = .ok (.putfield 104, 3) := by decide +kernel
theorem dX12_nextToken_44 : decode cX12_nextToken 44 = .ok (.goto (-36), 3) := by decide +kernel
theorem dX12_nextToken_47 : decode cX12_nextToken 47 = .ok (.aload_n 0, 1) := by decide +kernel
theorem dX12_nextToken_48 : decode cX12_nextToken 48 = .ok (.aload_n 0, 1) := by decide +kernel
theorem dX12_nextToken_49 : decode cX12_nextToken 49 = .ok (.getfield 104, 3) := by decide +kernel
theorem dX12_nextToken_52 : decode cX12_nextToken 52 = .ok (.invokevirtual 107, 3) := by decide +kernel
theorem dX12_nextToken_55 : decode cX12_nextToken 55 = .ok (.istore_n 1, 1) := by decide +kernel
theorem dX12_nextToken_56 : decode cX12_nextToken 56 = .ok (.aload_n 0, 1) := by decide +kernel
theorem dX12_nextToken_57 : decode cX12_nextToken 57 = .ok (.aload_n 0, 1) := by decide +kernel
theorem dX12_nextToken_58 : decode cX12_nextToken 58 = .ok (.getfield 104, 3) := by decide +kernel
theorem dX12_nextToken_61 : decode cX12_nextToken 61 = .ok (.putfield 101, 3) := by decide +kernel
theorem dX12_nextToken_64 : decode cX12_nextToken 64 = .ok (.aload_n 0, 1) := by decide +kernel
theorem dX12_nextToken_65 : decode cX12_nextToken 65 = .ok (.iconst 3, 1) := by decide +kernel
theorem dX12_nextToken_66 : decode cX12_nextToken 66 = .ok (.putfield 111, 3) := by decide +kernel
theorem dX12_nextToken_69 : decode cX12_nextToken 69 = .ok (.iload_n 1, 1) := by decide +kernel
theorem dX12_nextToken_70 : decode cX12_nextToken 70 = .ok (.iconst (-1), 1) := by decide +kernel
theorem dX12_nextToken_71 : decode cX12_nextToken 71 = .ok (.if_icmp .ne 11, 3) := by decide +kernel
theorem dX12_nextToken_74 : decode cX12_nextToken 74 = .ok (.aload_n 0, 1) := by decide +kernel
theorem dX12_nextToken_75 : decode cX12_nextToken 75 = .ok (.iconst 0, 1) := by decide +kernel
theorem dX12_nextToken_76 : decode cX12_nextToken 76 = .ok (.putfield 111, 3) := by decide +kernel
theorem dX12_nextToken_79 : decode cX12_nextToken 79 = .ok (.goto 223, 3) := by decide +kernel
theorem dX12_nextToken_82 : decode cX12_nextToken 82 = .ok (.iload_n 1, 1) := by decide +kernel
theorem dX12_nextToken_83 : decode cX12_nextToken 83 = .ok (.i2l, 1) := by decide +kernel
theorem dX12_nextToken_84 : decode cX12_nextToken 84 = .ok (.ldc2_w 114, 3) := by decide +kernel
theorem dX12_nextToken_87 : decode cX12_nextToken 87 = .ok (.ldc2_w 116, 3) := by decide +kernel
theorem dX12_nextToken_90 : decode cX12_nextToken 90 = .ok (.invokestatic 118, 3) := by decide +kernel
theorem dX12_nextToken_93 : decode cX12_nextToken 93 = .ok (.ifCond .eq 63, 3) := by decide +kernel
theorem dX12_nextToken_96 : decode cX12_nextToken 96 = .ok (.aload_n 0, 1) := by decide +kernel
theorem dX12_nextToken_97 : decode cX12_nextToken 97 = .ok (.aload_n 0, 1) := by decide +kernel
theorem dX12_nextToken_98 : decode cX12_nextToken 98 = .ok (.getfield 101, 3) := by decide +kernel
theorem dX12_nextToken_101 : decode cX12_nextToken 101 = .ok (.invokevirtual 107, 3) := by decide +kernel
theorem dX12_nextToken_104 : decode cX12_nextToken 104 = .ok (.i2l, 1) := by decide +kernel
theorem dX12_nextToken_105 : decode cX12_nextToken 105 = .ok (.ldc2_w 114, 3) := by decide +kernel
theorem dX12_nextToken_108 : decode cX12_nextToken 108 = .ok (.ldc2_w 116, 3) := by decide +kernel
theorem dX12_nextToken_111 : decode cX12_nextToken 111 = .ok (.invokestatic 118, 3) := by decide +kernel
theorem dX12_nextToken_114 : decode cX12_nextToken 114 = .ok (.ifCond .eq 16, 3) := by decide +kernel
theorem dX12_nextToken_117 : decode cX12_nextToken 117 = .ok (.aload_n 0, 1) := by decide +kernel
theorem dX12_nextToken_118 : decode cX12_nextToken 118 = .ok (.dup, 1) := by decide +kernel
theorem dX12_nextToken_119 : decode cX12_nextToken 119 = .ok (.getfield 101, 3) := by decide +kernel
theorem dX12_nextToken_122 : decode cX12_nextToken 122 = .ok (.iconst 1, 1) := by decide +kernel
theorem dX12_nextToken_123 : decode cX12_nextToken 123 = .ok (.iadd, 1) := by decide +kernel
theorem dX12_nextToken_124 : decode cX12_nextToken 124 = .ok (.putfield 101, 3) := by decide +kernel
theorem dX12_nextToken_127 : decode cX12_nextToken 127 = .ok (.goto (-31), 3) := by decide +kernel
theorem dX12_nextToken_130 : decode cX12_nextToken 130 = .ok (.aload_n 0, 1) := by decide +kernel
theorem dX12_nextToken_131 : decode cX12_nextToken 131 = .ok (.aload_n 0, 1) := by decide +kernel
theorem dX12_nextToken_132 : decode cX12_nextToken 132 = .ok (.getfield 101, 3) := by decide +kernel
theorem dX12_nextToken_135 : decode cX12_nextToken 135 = .ok (.aload_n 0, 1) := by decide +kernel
theorem dX12_nextToken_136 : decode cX12_nextToken 136 = .ok (.getfield 104, 3) := by decide +kernel
theorem dX12_nextToken_139 : decode cX12_nextToken 139 = .ok (.isub, 1) := by decide +kernel
theorem dX12_nextToken_140 : decode cX12_nextToken 140 = .ok (.bipush 6, 2) := by decide +kernel
theorem dX12_nextToken_142 : decode cX12_nextToken 142 = .ok (.if_icmp .le 7, 3) := by decide +kernel
theorem dX12_nextToken_145 : decode cX12_nextToken 145 = .ok (.iconst 3, 1) := by decide +kernel
theorem dX12_nextToken_146 : decode cX12_nextToken 146 = .ok (.goto 4, 3) := by decide +kernel
theorem dX12_nextToken_149 : decode cX12_nextToken 149 = .ok (.iconst 1, 1) := by decide +kernel
theorem dX12_nextToken_150 : decode cX12_nextToken 150 = .ok (.putfield 111, 3) := by decide +kernel
theorem dX12_nextToken_153 : decode cX12_nextToken 153 = .ok (.goto 149, 3) := by decide +kernel
theorem dX12_nextToken_156 : decode cX12_nextToken 156 = .ok (.iload_n 1, 1) := by decide +kernel
theorem dX12_nextToken_157 : decode cX12_nextToken 157 = .ok (.i2l, 1) := by decide +kernel
theorem dX12_nextToken_158 : decode cX12_nextToken 158 = .ok (.ldc2_w 122, 3) := by decide +kernel
theorem dX12_nextToken_161 : decode cX12_nextToken 161 = .ok (.ldc2_w 124, 3) := by decide +kernel
theorem dX12_nextToken_164 : decode cX12_nextToken 164 = .ok (.invokestatic 118, 3) := by decide +kernel
theorem dX12_nextToken_167 : decode cX12_nextToken 167 = .ok (.ifCond .eq 110, 3) := by decide +kernel
theorem dX12_nextToken_170 : decode cX12_nextToken 170 = .ok (.aload_n 0, 1) := by decide +kernel
theorem dX12_nextToken_171 : decode cX12_nextToken 171 = .ok (.iconst 0, 1) := by decide +kernel
theorem dX12_nextToken_172 : decode cX12_nextToken 172 = .ok (.putfield 126, 3) := by decide +kernel
theorem dX12_nextToken_175 : decode cX12_nextToken 175 = .ok (.aload_n 0, 1) := by decide +kernel
theorem dX12_nextToken_176 : decode cX12_nextToken 176 = .ok (.aload_n 0, 1) := by decide +kernel
theorem dX12_nextToken_177 : decode cX12_nextToken 177 = .ok (.getfield 101, 3) := by decide +kernel
theorem dX12_nextToken_180 : decode cX12_nextToken 180 = .ok (.invokevirtual 107, 3) := by decide +kernel
theorem dX12_nextToken_183 : decode cX12_nextToken 183 = .ok (.i2l, 1) := by decide +kernel
theorem dX12_nextToken_184 : decode cX12_nextToken 184 = .ok (.ldc2_w 122, 3) := by decide +kernel
theorem dX12_nextToken_187 : decode cX12_nextToken 187 = .ok (.ldc2_w 124, 3) := by decide +kernel
theorem dX12_nextToken_190 : decode cX12_nextToken 190 = .ok (.invokestatic 118, 3) := by decide +kernel
theorem dX12_nextToken_193 : decode cX12_nextToken 193 = .ok (.ifCond .eq 59, 3) := by decide +kernel
theorem dX12_nextToken_196 : decode cX12_nextToken 196 = .ok (.aload_n 0, 1) := by decide +kernel
theorem dX12_nextToken_197 : decode cX12_nextToken 197 = .ok (.aload_n 0, 1) := by decide +kernel
theorem dX12_nextToken_198 : decode cX12_nextToken 198 = .ok (.getfield 101, 3) := by decide +kernel
theorem dX12_nextToken_201 : decode cX12_nextToken 201 = .ok (.aload_n 0, 1) := by decide +kernel
theorem dX12_nextToken_202 : decode cX12_nextToken 202 = .ok (.getfield 104, 3) := by decide +kernel
theorem dX12_nextToken_205 : decode cX12_nextToken 205 = .ok (.isub, 1) := by decide +kernel
theorem dX12_nextToken_206 : decode cX12_nextToken 206 = .ok (.iconst 4, 1) := by decide +kernel
theorem dX12_nextToken_207 : decode cX12_nextToken 207 = .ok (.if_icmp .ge 25, 3) := by decide +kernel
theorem dX12_nextToken_210 : decode cX12_nextToken 210 = .ok (.bipush 10, 2) := by decide +kernel
theorem dX12_nextToken_212 : decode cX12_nextToken 212 = .ok (.aload_n 0, 1) := by decide +kernel
theorem dX12_nextToken_213 : decode cX12_nextToken 213 = .ok (.getfield 126, 3) := by decide +kernel
theorem dX12_nextToken_216 : decode cX12_nextToken 216 = .ok (.imul, 1) := by decide +kernel
theorem dX12_nextToken_217 : decode cX12_nextToken 217 = .ok (.aload_n 0, 1) := by decide +kernel
theorem dX12_nextToken_218 : decode cX12_nextToken 218 = .ok (.aload_n 0, 1) := by decide +kernel
theorem dX12_nextToken_219 : decode cX12_nextToken 219 = .ok (.getfield 101, 3) := by decide +kernel
theorem dX12_nextToken_222 : decode cX12_nextToken 222 = .ok (.invokevirtual 107, 3) := by decide +kernel
theorem dX12_nextToken_225 : decode cX12_nextToken 225 = .ok (.iadd, 1) := by decide +kernel
theorem dX12_nextToken_226 : decode cX12_nextToken 226 = .ok (.bipush 48, 2) := by decide +kernel
theorem dX12_nextToken_228 : decode cX12_nextToken 228 = .ok (.isub, 1) := by decide +kernel
theorem dX12_nextToken_229 : decode cX12_nextToken 229 = .ok (.goto 7, 3) := by decide +kernel
theorem dX12_nextToken_232 : decode cX12_nextToken 232 = .ok (.aload_n 0, 1) := by decide +kernel
theorem dX12_nextToken_233 : decode cX12_nextToken 233 = .ok (.getfield 126, 3) := by decide +kernel
theorem dX12_nextToken_236 : decode cX12_nextToken 236 = .ok (.putfield 126, 3) := by decide +kernel
theorem dX12_nextToken_239 : decode cX12_nextToken 239 = .ok (.aload_n 0, 1) := by decide +kernel
theorem dX12_nextToken_240 : decode cX12_nextToken 240 = .ok (.dup, 1) := by decide +kernel
theorem dX12_nextToken_241 : decode cX12_nextToken 241 = .ok (.getfield 101, 3) := by decide +kernel
theorem dX12_nextToken_244 : decode cX12_nextToken 244 = .ok (.iconst 1, 1) := by decide +kernel
theorem dX12_nextToken_245 : decode cX12_nextToken 245 = .ok (.iadd, 1) := by decide +kernel
theorem dX12_nextToken_246 : decode cX12_nextToken 246 = .ok (.putfield 101, 3) := by decide +kernel
theorem dX12_nextToken_249 : decode cX12_nextToken 249 = .ok (.goto (-74), 3) := by decide +kernel
theorem dX12_nextToken_252 : decode cX12_nextToken 252 = .ok (.aload_n 0, 1) := by decide +kernel
theorem dX12_nextToken_253 : decode cX12_nextToken 253 = .ok (.aload_n 0, 1) := by decide +kernel
theorem dX12_nextToken_254 : decode cX12_nextToken 254 = .ok (.getfield 101, 3) := by decide +kernel
theorem dX12_nextToken_257 : decode cX12_nextToken 257 = .ok (.aload_n 0, 1) := by decide +kernel
theorem dX12_nextToken_258 : decode cX12_nextToken 258 = .ok (.getfield 104, 3) := by decide +kernel
theorem dX12_nextToken_261 : decode cX12_nextToken 261 = .ok (.isub, 1) := by decide +kernel
theorem dX12_nextToken_262 : decode cX12_nextToken 262 = .ok (.iconst 4, 1) := by decide +kernel
theorem dX12_nextToken_263 : decode cX12_nextToken 263 = .ok (.if_icmp .le 7, 3) := by decide +kernel
theorem dX12_nextToken_266 : decode cX12_nextToken 266 = .ok (.iconst 3, 1) := by decide +kernel
theorem dX12_nextToken_267 : decode cX12_nextToken 267 = .ok (.goto 4, 3) := by decide +kernel
theorem dX12_nextToken_270 : decode cX12_nextToken 270 = .ok (.iconst 2, 1) := by decide +kernel
theorem dX12_nextToken_271 : decode cX12_nextToken 271 = .ok (.putfield 111, 3) := by decide +kernel
theorem dX12_nextToken_274 : decode cX12_nextToken 274 = .ok (.goto 28, 3) := by decide +kernel
theorem dX12_nextToken_277 : decode cX12_nextToken 277 = .ok (.aload_n 0, 1) := by decide +kernel
theorem dX12_nextToken_278 : decode cX12_nextToken 278 = .ok (.dup, 1) := by decide +kernel
theorem dX12_nextToken_279 : decode cX12_nextToken 279 = .ok (.getfield 101, 3) := by decide +kernel
theorem dX12_nextToken_282 : decode cX12_nextToken 282 = .ok (.iconst 1, 1) := by decide +kernel
theorem dX12_nextToken_283 : decode cX12_nextToken 283 = .ok (.iadd, 1) := by decide +kernel
theorem dX12_nextToken_284 : decode cX12_nextToken 284 = .ok (.putfield 101, 3) := by decide +kernel
theorem dX12_nextToken_287 : decode cX12_nextToken 287 = .ok (.aload_n 0, 1) := by decide +kernel
theorem dX12_nextToken_288 : decode cX12_nextToken 288 = .ok (.iload_n 1, 1) := by decide +kernel
theorem dX12_nextToken_289 : decode cX12_nextToken 289 = .ok (.bipush 59, 2) := by decide +kernel
theorem dX12_nextToken_291 : decode cX12_nextToken 291 = .ok (.if_icmp .ne 7, 3) := by decide +kernel
theorem dX12_nextToken_294 : decode cX12_nextToken 294 = .ok (.iload_n 1, 1) := by decide +kernel
theorem dX12_nextToken_295 : decode cX12_nextToken 295 = .ok (.goto 4, 3) := by decide +kernel
theorem dX12_nextToken_298 : decode cX12_nextToken 298 = .ok (.iconst 3, 1) := by decide +kernel
theorem dX12_nextToken_299 : decode cX12_nextToken 299 = .ok (.putfield 111, 3) := by decide +kernel
theorem dX12_nextToken_302 : decode cX12_nextToken 302 = .ok (.return_, 1) := by decide +kernel
abbrev LX12_nextToken_8 (I : MI) (Q : MI → Prop) : Prop := WP mX12_nextToken 286 Rf0 8 [some (.ref 261), none] [] I (qv Q)
abbrev LX12_nextToken_34 (I : MI) (Q : MI → Prop) : Prop := WP mX12_nextToken 286 Rf0 34 [some (.ref 261), none] [] I (qv Q)
abbrev LX12_nextToken_96 (l1 : Int32) (I : MI) (Q : MI → Prop) : Prop := WP mX12_nextToken 286 Rf0 96 [some (.ref 261), some (.int l1)] [] I (qv Q)
abbrev LX12_nextToken_150 (l1 t1 : Int32) (I : MI) (Q : MI → Prop) : Prop := WP mX12_nextToken 286 Rf0 150 [some (.ref 261), some (.int l1)] [.int t1, .ref 261] I (qv Q)
abbrev LX12_nextToken_175 (l1 : Int32) (I : MI) (Q : MI → Prop) : Prop := WP mX12_nextToken 286 Rf0 175 [some (.ref 261), some (.int l1)] [] I (qv Q)
abbrev LX12_nextToken_236 (l1 t1 : Int32) (I : MI) (Q : MI → Prop) : Prop := WP mX12_nextToken 286 Rf0 236 [some (.ref 261), some (.int l1)] [.int t1, .ref 261] I (qv Q)
abbrev LX12_nextToken_271 (l1 t1 : Int32) (I : MI) (Q : MI → Prop) : Prop := WP mX12_nextToken 286 Rf0 271 [some (.ref 261), some (.int l1)] [.int t1, .ref 261] I (qv Q)
abbrev LX12_nextToken_299 (l1 t1 : Int32) (I : MI) (Q : MI → Prop) : Prop := WP mX12_nextToken 286 Rf0 299 [some (.ref 261), some (.int l1)] [.int t1, .ref 261] I (qv Q)
set_option maxRecDepth 20000 in
theorem rX12_nextToken_8 {I : MI} {Q : MI → Prop} (H : (Wi mX12_byteAt [.ref 261, .int (I 261 4)] I (fun r2 I1 => ((r2 = 32 → (LX12_nextToken_34  I1 Q)) ∧ (¬ r2 = 32 → (Wi mX12_byteAt [.ref 261, .int (I1 261 4)] I1 (fun r4 I3 => ((¬ r4 = 10 → (Wi mX12_byteAt [.ref 261, .int (I3 261 4)] I3 (fun r6 I5 => (∀ I7 : MI, I7 = up2 I5 261 5 (I5 261 4) → ∀ I8 : MI, I8 = up2 I7 261 6 3 → (¬ r6 = (-1) → (Wi mX12_within [.long r6.toInt64, .long 97, .long 122] I8 (fun r10 I9 => ((r10 = 0 → (Wi mX12_within [.long r6.toInt64, .long 48, .long 57] I9 (fun r12 I11 => ((r12 = 0 → (∀ I13 : MI, I13 = up2 I11 261 5 ((I11 261 5) + 1) → (¬ r6 = 59 → (LX12_nextToken_299 r6 3 I13 Q)) ∧ (r6 = 59 → (LX12_nextToken_299 r6 r6 I13 Q)))) ∧ (¬ r12 = 0 → (∀ I13 : MI, I13 = up2 I11 261 7 0 → LX12_nextToken_175 r6 I13 Q)))))) ∧ (¬ r10 = 0 → (LX12_nextToken_96 r6 I9 Q)))))) ∧ (r6 = (-1) → (∀ I9 : MI, I9 = up2 I8 261 6 0 → Q I9)))))) ∧ (r4 = 10 → (LX12_nextToken_34  I3 Q)))))))))) : LX12_nextToken_8  I Q := by
  show WP mX12_nextToken 286 Rf0 8 [some (.ref 261), none] [] I (qv Q)
  refine w_aload_n dX12_nextToken_8 rfl rfl ?_
  refine w_aload_n dX12_nextToken_9 rfl rfl ?_
  refine w_getI dX12_nextToken_10 fl_12_104 okC12 kd_261 (by decide) (by decide) rfl ?_
  refine w_callV (st := []) (As := [.int (I 261 4)]) dX12_nextToken_13 ml_12_107 okX12_byteAt kd_261 (by decide) rfl rfl rfl (Nat.le_of_ble_eq_true rfl) (by decide) (Nat.le_of_ble_eq_true rfl) (wc_i H (fun r2 I1 H => ?_))
  refine w_bipush (v := 32) dX12_nextToken_16 (by decide) ?_
  refine w_icmp_eq (t := 34) dX12_nextToken_18 (by decide) (fun h => ?_) (fun h => ?_)
  · replace H := H.1 h
    skip
    exact H
  · replace H := H.2 h
    refine w_aload_n dX12_nextToken_21 rfl rfl ?_
    refine w_aload_n dX12_nextToken_22 rfl rfl ?_
    refine w_getI dX12_nextToken_23 fl_12_104 okC12 kd_261 (by decide) (by decide) rfl ?_
    refine w_callV (st := []) (As := [.int (I1 261 4)]) dX12_nextToken_26 ml_12_107 okX12_byteAt kd_261 (by decide) rfl rfl rfl (Nat.le_of_ble_eq_true rfl) (by decide) (Nat.le_of_ble_eq_true rfl) (wc_i H (fun r4 I3 H => ?_))
    refine w_bipush (v := 10) dX12_nextToken_29 (by decide) ?_
    refine w_icmp_ne (t := 47) dX12_nextToken_31 (by decide) (fun h => ?_) (fun h => ?_)
    · replace H := H.1 h
      refine w_aload_n dX12_nextToken_47 rfl rfl ?_
      refine w_aload_n dX12_nextToken_48 rfl rfl ?_
      refine w_getI dX12_nextToken_49 fl_12_104 okC12 kd_261 (by decide) (by decide) rfl ?_
      refine w_callV (st := []) (As := [.int (I3 261 4)]) dX12_nextToken_52 ml_12_107 okX12_byteAt kd_261 (by decide) rfl rfl rfl (Nat.le_of_ble_eq_true rfl) (by decide) (Nat.le_of_ble_eq_true rfl) (wc_i H (fun r6 I5 H => ?_))
      refine w_istore_n (ls' := [some (.ref 261), some (.int r6)]) dX12_nextToken_55 rfl (by decide) rfl rfl ?_
      refine w_aload_n dX12_nextToken_56 rfl rfl ?_
      refine w_aload_n dX12_nextToken_57 rfl rfl ?_
      refine w_getI dX12_nextToken_58 fl_12_104 okC12 kd_261 (by decide) (by decide) rfl ?_
      refine w_putI dX12_nextToken_61 fl_12_101 okC12 kd_261 (by decide) (by decide) rfl rfl rfl (w_up fun I7 hI => ?_)
      replace H := H I7 hI
      refine w_aload_n dX12_nextToken_64 rfl rfl ?_
      refine w_iconst (v := 3) dX12_nextToken_65 (by decide) ?_
      refine w_putI dX12_nextToken_66 fl_12_111 okC12 kd_261 (by decide) (by decide) rfl rfl rfl (w_up fun I8 hI => ?_)
      replace H := H I8 hI
      refine w_iload_n dX12_nextToken_69 rfl rfl ?_
      refine w_iconst (v := (-1)) dX12_nextToken_70 (by decide) ?_
      refine w_icmp_ne (t := 82) dX12_nextToken_71 (by decide) (fun h => ?_) (fun h => ?_)
      · replace H := H.1 h
        refine w_iload_n dX12_nextToken_82 rfl rfl ?_
        refine w_i2l dX12_nextToken_83 ?_
        refine w_ldc2 (v := 97) dX12_nextToken_84 kl_12_114 ?_
        refine w_ldc2 (v := 122) dX12_nextToken_87 kl_12_116 ?_
        refine w_callS (st := []) (As := [.long r6.toInt64, .long 97, .long 122]) dX12_nextToken_90 ml_12_118 okX12_within rfl (Nat.le_of_ble_eq_true rfl) (by decide) (Nat.le_of_ble_eq_true rfl) (wc_i H (fun r10 I9 H => ?_))
        refine w_if_eq (t := 156) dX12_nextToken_93 (by decide) (fun h => ?_) (fun h => ?_)
        · replace H := H.1 h
          refine w_iload_n dX12_nextToken_156 rfl rfl ?_
          refine w_i2l dX12_nextToken_157 ?_
          refine w_ldc2 (v := 48) dX12_nextToken_158 kl_12_122 ?_
          refine w_ldc2 (v := 57) dX12_nextToken_161 kl_12_124 ?_
          refine w_callS (st := []) (As := [.long r6.toInt64, .long 48, .long 57]) dX12_nextToken_164 ml_12_118 okX12_within rfl (Nat.le_of_ble_eq_true rfl) (by decide) (Nat.le_of_ble_eq_true rfl) (wc_i H (fun r12 I11 H => ?_))
          refine w_if_eq (t := 277) dX12_nextToken_167 (by decide) (fun h => ?_) (fun h => ?_)
          · replace H := H.1 h
            refine w_aload_n dX12_nextToken_277 rfl rfl ?_
            refine w_dup dX12_nextToken_278 rfl ?_
            refine w_getI dX12_nextToken_279 fl_12_101 okC12 kd_261 (by decide) (by decide) rfl ?_
            refine w_iconst (v := 1) dX12_nextToken_282 (by decide) ?_
            refine w_iadd dX12_nextToken_283 ?_
            refine w_putI dX12_nextToken_284 fl_12_101 okC12 kd_261 (by decide) (by decide) rfl rfl rfl (w_up fun I13 hI => ?_)
            replace H := H I13 hI
            refine w_aload_n dX12_nextToken_287 rfl rfl ?_
            refine w_iload_n dX12_nextToken_288 rfl rfl ?_
            refine w_bipush (v := 59) dX12_nextToken_289 (by decide) ?_
            refine w_icmp_ne (t := 298) dX12_nextToken_291 (by decide) (fun h => ?_) (fun h => ?_)
            · replace H := H.1 h
              refine w_iconst (v := 3) dX12_nextToken_298 (by decide) ?_
              skip
              exact H
            · replace H := H.2 h
              refine w_iload_n dX12_nextToken_294 rfl rfl ?_
              refine w_goto (t := 299) dX12_nextToken_295 (by decide) ?_
              skip
              exact H
          · replace H := H.2 h
            refine w_aload_n dX12_nextToken_170 rfl rfl ?_
            refine w_iconst (v := 0) dX12_nextToken_171 (by decide) ?_
            refine w_putI dX12_nextToken_172 fl_12_126 okC12 kd_261 (by decide) (by decide) rfl rfl rfl (w_up fun I13 hI => ?_)
            replace H := H I13 hI
            skip
            exact H
        · replace H := H.2 h
          skip
          exact H
      · replace H := H.2 h
        refine w_aload_n dX12_nextToken_74 rfl rfl ?_
        refine w_iconst (v := 0) dX12_nextToken_75 (by decide) ?_
        refine w_putI dX12_nextToken_76 fl_12_111 okC12 kd_261 (by decide) (by decide) rfl rfl rfl (w_up fun I9 hI => ?_)
        replace H := H I9 hI
        refine w_goto (t := 302) dX12_nextToken_79 (by decide) ?_
        exact w_vret dX12_nextToken_302 rfl ⟨rfl, H⟩
    · replace H := H.2 h
      skip
      exact H
set_option maxRecDepth 20000 in
theorem rX12_nextToken_34 {I : MI} {Q : MI → Prop} (H : (∀ I1 : MI, I1 = up2 I 261 4 ((I 261 4) + 1) → LX12_nextToken_8  I1 Q)) : LX12_nextToken_34  I Q := by
  show WP mX12_nextToken 286 Rf0 34 [some (.ref 261), none] [] I (qv Q)
  refine w_aload_n dX12_nextToken_34 rfl rfl ?_
  refine w_dup dX12_nextToken_35 rfl ?_
  refine w_getI dX12_nextToken_36 fl_12_104 okC12 kd_261 (by decide) (by decide) rfl ?_
  refine w_iconst (v := 1) dX12_nextToken_39 (by decide) ?_
  refine w_iadd dX12_nextToken_40 ?_
  refine w_putI dX12_nextToken_41 fl_12_104 okC12 kd_261 (by decide) (by decide) rfl rfl rfl (w_up fun I1 hI => ?_)
  replace H := H I1 hI
  refine w_goto (t := 8) dX12_nextToken_44 (by decide) ?_
  skip
  exact H
set_option maxRecDepth 20000 in
theorem rX12_nextToken_96 {l1 : Int32} {I : MI} {Q : MI → Prop} (H : (Wi mX12_byteAt [.ref 261, .int (I 261 5)] I (fun r2 I1 => (Wi mX12_within [.long r2.toInt64, .long 97, .long 122] I1 (fun r4 I3 => ((r4 = 0 → ((((I3 261 5) - (I3 261 4)) ≤ 6 → (LX12_nextToken_150 l1 1 I3 Q)) ∧ (¬ ((I3 261 5) - (I3 261 4)) ≤ 6 → (LX12_nextToken_150 l1 3 I3 Q)))) ∧ (¬ r4 = 0 → (∀ I5 : MI, I5 = up2 I3 261 5 ((I3 261 5) + 1) → LX12_nextToken_96 l1 I5 Q)))))))) : LX12_nextToken_96 l1 I Q := by
  show WP mX12_nextToken 286 Rf0 96 [some (.ref 261), some (.int l1)] [] I (qv Q)
  refine w_aload_n dX12_nextToken_96 rfl rfl ?_
  refine w_aload_n dX12_nextToken_97 rfl rfl ?_
  refine w_getI dX12_nextToken_98 fl_12_101 okC12 kd_261 (by decide) (by decide) rfl ?_
  refine w_callV (st := []) (As := [.int (I 261 5)]) dX12_nextToken_101 ml_12_107 okX12_byteAt kd_261 (by decide) rfl rfl rfl (Nat.le_of_ble_eq_true rfl) (by decide) (Nat.le_of_ble_eq_true rfl) (wc_i H (fun r2 I1 H => ?_))
  refine w_i2l dX12_nextToken_104 ?_
  refine w_ldc2 (v := 97) dX12_nextToken_105 kl_12_114 ?_
  refine w_ldc2 (v := 122) dX12_nextToken_108 kl_12_116 ?_
  refine w_callS (st := []) (As := [.long r2.toInt64, .long 97, .long 122]) dX12_nextToken_111 ml_12_118 okX12_within rfl (Nat.le_of_ble_eq_true rfl) (by decide) (Nat.le_of_ble_eq_true rfl) (wc_i H (fun r4 I3 H => ?_))
  refine w_if_eq (t := 130) dX12_nextToken_114 (by decide) (fun h => ?_) (fun h => ?_)
  · replace H := H.1 h
    refine w_aload_n dX12_nextToken_130 rfl rfl ?_
    refine w_aload_n dX12_nextToken_131 rfl rfl ?_
    refine w_getI dX12_nextToken_132 fl_12_101 okC12 kd_261 (by decide) (by decide) rfl ?_
    refine w_aload_n dX12_nextToken_135 rfl rfl ?_
    refine w_getI dX12_nextToken_136 fl_12_104 okC12 kd_261 (by decide) (by decide) rfl ?_
    refine w_isub dX12_nextToken_139 ?_
    refine w_bipush (v := 6) dX12_nextToken_140 (by decide) ?_
    refine w_icmp_le (t := 149) dX12_nextToken_142 (by decide) (fun h => ?_) (fun h => ?_)
    · replace H := H.1 h
      refine w_iconst (v := 1) dX12_nextToken_149 (by decide) ?_
      skip
      exact H
    · replace H := H.2 h
      refine w_iconst (v := 3) dX12_nextToken_145 (by decide) ?_
      refine w_goto (t := 150) dX12_nextToken_146 (by decide) ?_
      skip
      exact H
  · replace H := H.2 h
    refine w_aload_n dX12_nextToken_117 rfl rfl ?_
    refine w_dup dX12_nextToken_118 rfl ?_
    refine w_getI dX12_nextToken_119 fl_12_101 okC12 kd_261 (by decide) (by decide) rfl ?_
    refine w_iconst (v := 1) dX12_nextToken_122 (by decide) ?_
    refine w_iadd dX12_nextToken_123 ?_
    refine w_putI dX12_nextToken_124 fl_12_101 okC12 kd_261 (by decide) (by decide) rfl rfl rfl (w_up fun I5 hI => ?_)
    replace H := H I5 hI
    refine w_goto (t := 96) dX12_nextToken_127 (by decide) ?_
    skip
    exact H
set_option maxRecDepth 20000 in
theorem rX12_nextToken_150 {l1 t1 : Int32} {I : MI} {Q : MI → Prop} (H : (∀ I1 : MI, I1 = up2 I 261 6 t1 → Q I1)) : LX12_nextToken_150 l1 t1 I Q := by
  show WP mX12_nextToken 286 Rf0 150 [some (.ref 261), some (.int l1)] [.int t1, .ref 261] I (qv Q)
  refine w_putI dX12_nextToken_150 fl_12_111 okC12 kd_261 (by decide) (by decide) rfl rfl rfl (w_up fun I1 hI => ?_)
  replace H := H I1 hI
  refine w_goto (t := 302) dX12_nextToken_153 (by decide) ?_
  exact w_vret dX12_nextToken_302 rfl ⟨rfl, H⟩
set_option maxRecDepth 20000 in
theorem rX12_nextToken_175 {l1 : Int32} {I : MI} {Q : MI → Prop} (H : (Wi mX12_byteAt [.ref 261, .int (I 261 5)] I (fun r2 I1 => (Wi mX12_within [.long r2.toInt64, .long 48, .long 57] I1 (fun r4 I3 => ((r4 = 0 → ((((I3 261 5) - (I3 261 4)) ≤ 4 → (LX12_nextToken_271 l1 2 I3 Q)) ∧ (¬ ((I3 261 5) - (I3 261 4)) ≤ 4 → (LX12_nextToken_271 l1 3 I3 Q)))) ∧ (¬ r4 = 0 → ((4 ≤ ((I3 261 5) - (I3 261 4)) → (LX12_nextToken_236 l1 (I3 261 7) I3 Q)) ∧ (¬ 4 ≤ ((I3 261 5) - (I3 261 4)) → (Wi mX12_byteAt [.ref 261, .int (I3 261 5)] I3 (fun r6 I5 => (LX12_nextToken_236 l1 (((10 * (I3 261 7)) + r6) - 48) I5 Q)))))))))))) : LX12_nextToken_175 l1 I Q := by
  show WP mX12_nextToken 286 Rf0 175 [some (.ref 261), some (.int l1)] [] I (qv Q)
  refine w_aload_n dX12_nextToken_175 rfl rfl ?_
  refine w_aload_n dX12_nextToken_176 rfl rfl ?_
  refine w_getI dX12_nextToken_177 fl_12_101 okC12 kd_261 (by decide) (by decide) rfl ?_
  refine w_callV (st := []) (As := [.int (I 261 5)]) dX12_nextToken_180 ml_12_107 okX12_byteAt kd_261 (by decide) rfl rfl rfl (Nat.le_of_ble_eq_true rfl) (by decide) (Nat.le_of_ble_eq_true rfl) (wc_i H (fun r2 I1 H => ?_))
  refine w_i2l dX12_nextToken_183 ?_
  refine w_ldc2 (v := 48) dX12_nextToken_184 kl_12_122 ?_
  refine w_ldc2 (v := 57) dX12_nextToken_187 kl_12_124 ?_
  refine w_callS (st := []) (As := [.long r2.toInt64, .long 48, .long 57]) dX12_nextToken_190 ml_12_118 okX12_within rfl (Nat.le_of_ble_eq_true rfl) (by decide) (Nat.le_of_ble_eq_true rfl) (wc_i H (fun r4 I3 H => ?_))
  refine w_if_eq (t := 252) dX12_nextToken_193 (by decide) (fun h => ?_) (fun h => ?_)
  · replace H := H.1 h
    refine w_aload_n dX12_nextToken_252 rfl rfl ?_
    refine w_aload_n dX12_nextToken_253 rfl rfl ?_
    refine w_getI dX12_nextToken_254 fl_12_101 okC12 kd_261 (by decide) (by decide) rfl ?_
    refine w_aload_n dX12_nextToken_257 rfl rfl ?_
    refine w_getI dX12_nextToken_258 fl_12_104 okC12 kd_261 (by decide) (by decide) rfl ?_
    refine w_isub dX12_nextToken_261 ?_
    refine w_iconst (v := 4) dX12_nextToken_262 (by decide) ?_
    refine w_icmp_le (t := 270) dX12_nextToken_263 (by decide) (fun h => ?_) (fun h => ?_)
    · replace H := H.1 h
      refine w_iconst (v := 2) dX12_nextToken_270 (by decide) ?_
      skip
      exact H
    · replace H := H.2 h
      refine w_iconst (v := 3) dX12_nextToken_266 (by decide) ?_
      refine w_goto (t := 271) dX12_nextToken_267 (by decide) ?_
      skip
      exact H
  · replace H := H.2 h
    refine w_aload_n dX12_nextToken_196 rfl rfl ?_
    refine w_aload_n dX12_nextToken_197 rfl rfl ?_
    refine w_getI dX12_nextToken_198 fl_12_101 okC12 kd_261 (by decide) (by decide) rfl ?_
    refine w_aload_n dX12_nextToken_201 rfl rfl ?_
    refine w_getI dX12_nextToken_202 fl_12_104 okC12 kd_261 (by decide) (by decide) rfl ?_
    refine w_isub dX12_nextToken_205 ?_
    refine w_iconst (v := 4) dX12_nextToken_206 (by decide) ?_
    refine w_icmp_ge (t := 232) dX12_nextToken_207 (by decide) (fun h => ?_) (fun h => ?_)
    · replace H := H.1 h
      refine w_aload_n dX12_nextToken_232 rfl rfl ?_
      refine w_getI dX12_nextToken_233 fl_12_126 okC12 kd_261 (by decide) (by decide) rfl ?_
      skip
      exact H
    · replace H := H.2 h
      refine w_bipush (v := 10) dX12_nextToken_210 (by decide) ?_
      refine w_aload_n dX12_nextToken_212 rfl rfl ?_
      refine w_getI dX12_nextToken_213 fl_12_126 okC12 kd_261 (by decide) (by decide) rfl ?_
      refine w_imul dX12_nextToken_216 ?_
      refine w_aload_n dX12_nextToken_217 rfl rfl ?_
      refine w_aload_n dX12_nextToken_218 rfl rfl ?_
      refine w_getI dX12_nextToken_219 fl_12_101 okC12 kd_261 (by decide) (by decide) rfl ?_
      refine w_callV (st := [.int (10 * (I3 261 7)), .ref 261]) (As := [.int (I3 261 5)]) dX12_nextToken_222 ml_12_107 okX12_byteAt kd_261 (by decide) rfl rfl rfl (Nat.le_of_ble_eq_true rfl) (by decide) (Nat.le_of_ble_eq_true rfl) (wc_i H (fun r6 I5 H => ?_))
      refine w_iadd dX12_nextToken_225 ?_
      refine w_bipush (v := 48) dX12_nextToken_226 (by decide) ?_
      refine w_isub dX12_nextToken_228 ?_
      refine w_goto (t := 236) dX12_nextToken_229 (by decide) ?_
      skip
      exact H
set_option maxRecDepth 20000 in
theorem rX12_nextToken_236 {l1 t1 : Int32} {I : MI} {Q : MI → Prop} (H : (∀ I1 : MI, I1 = up2 I 261 7 t1 → ∀ I2 : MI, I2 = up2 I1 261 5 ((I1 261 5) + 1) → LX12_nextToken_175 l1 I2 Q)) : LX12_nextToken_236 l1 t1 I Q := by
  show WP mX12_nextToken 286 Rf0 236 [some (.ref 261), some (.int l1)] [.int t1, .ref 261] I (qv Q)
  refine w_putI dX12_nextToken_236 fl_12_126 okC12 kd_261 (by decide) (by decide) rfl rfl rfl (w_up fun I1 hI => ?_)
  replace H := H I1 hI
  refine w_aload_n dX12_nextToken_239 rfl rfl ?_
  refine w_dup dX12_nextToken_240 rfl ?_
  refine w_getI dX12_nextToken_241 fl_12_101 okC12 kd_261 (by decide) (by decide) rfl ?_
  refine w_iconst (v := 1) dX12_nextToken_244 (by decide) ?_
  refine w_iadd dX12_nextToken_245 ?_
  refine w_putI dX12_nextToken_246 fl_12_101 okC12 kd_261 (by decide) (by decide) rfl rfl rfl (w_up fun I2 hI => ?_)
  replace H := H I2 hI
  refine w_goto (t := 175) dX12_nextToken_249 (by decide) ?_
  skip
  exact H
set_option maxRecDepth 20000 in
theorem rX12_nextToken_271 {l1 t1 : Int32} {I : MI} {Q : MI → Prop} (H : (∀ I1 : MI, I1 = up2 I 261 6 t1 → Q I1)) : LX12_nextToken_271 l1 t1 I Q := by
  show WP mX12_nextToken 286 Rf0 271 [some (.ref 261), some (.int l1)] [.int t1, .ref 261] I (qv Q)
  refine w_putI dX12_nextToken_271 fl_12_111 okC12 kd_261 (by decide) (by decide) rfl rfl rfl (w_up fun I1 hI => ?_)
  replace H := H I1 hI
  refine w_goto (t := 302) dX12_nextToken_274 (by decide) ?_
  exact w_vret dX12_nextToken_302 rfl ⟨rfl, H⟩
set_option maxRecDepth 20000 in
theorem rX12_nextToken_299 {l1 t1 : Int32} {I : MI} {Q : MI → Prop} (H : (∀ I1 : MI, I1 = up2 I 261 6 t1 → Q I1)) : LX12_nextToken_299 l1 t1 I Q := by
  show WP mX12_nextToken 286 Rf0 299 [some (.ref 261), some (.int l1)] [.int t1, .ref 261] I (qv Q)
  refine w_putI dX12_nextToken_299 fl_12_111 okC12 kd_261 (by decide) (by decide) rfl rfl rfl (w_up fun I1 hI => ?_)
  replace H := H I1 hI
  exact w_vret dX12_nextToken_302 rfl ⟨rfl, H⟩
set_option maxRecDepth 20000 in
theorem rX12_nextToken {I : MI} {Q : MI → Prop} (H : (∀ I1 : MI, I1 = up2 I 261 4 (I 261 5) → LX12_nextToken_8  I1 Q)) : Wv mX12_nextToken [.ref 261] I Q := by
  show WP mX12_nextToken 286 Rf0 0 [some (.ref 261), none] [] I (qv Q)
  refine w_aload_n dX12_nextToken_0 rfl rfl ?_
  refine w_aload_n dX12_nextToken_1 rfl rfl ?_
  refine w_getI dX12_nextToken_2 fl_12_101 okC12 kd_261 (by decide) (by decide) rfl ?_
  refine w_putI dX12_nextToken_5 fl_12_104 okC12 kd_261 (by decide) (by decide) rfl rfl rfl (w_up fun I1 hI => ?_)
  replace H := H I1 hI
  skip
  exact H
theorem dX12_must_0 : decode cX12_must 0 = .ok (.aload_n 0, 1) := by decide +kernel
theorem dX12_must_1 : decode cX12_must 1 = .ok (.getfield 129, 3) := by decide +kernel
theorem dX12_must_4 : decode cX12_must 4 = .ok (.ifCond .ne 20, 3) := by decide +kernel
theorem dX12_must_7 : decode cX12_must 7 = .ok (.iload_n 1, 1) := by decide +kernel
theorem dX12_must_8 : decode cX12_must 8 = .ok (.ifCond .ne 16, 3) := by decide +kernel
theorem dX12_must_11 : decode cX12_must 11 = .ok (.aload_n 0, 1) := by decide +kernel
theorem dX12_must_12 : decode cX12_must 12 = .ok (.iload_n 2, 1) := by decide +kernel
theorem dX12_must_13 : decode cX12_must 13 = .ok (.putfield 129, 3) := by decide +kernel
theorem dX12_must_16 : decode cX12_must 16 = .ok (.aload_n 0, 1) := by decide +kernel
theorem dX12_must_17 : decode cX12_must 17 = .ok (.aload_n 0, 1) := by decide +kernel
theorem dX12_must_18 : decode cX12_must 18 = .ok (.getfield 104, 3) := by decide +kernel
theorem dX12_must_21 : decode cX12_must 21 = .ok (.putfield 132, 3) := by decide +kernel
theorem dX12_must_24 : decode cX12_must 24 = .ok (.aload_n 0, 1) := by decide +kernel
theorem dX12_must_25 : decode cX12_must 25 = .ok (.getfield 129, 3) := by decide +kernel
theorem dX12_must_28 : decode cX12_must 28 = .ok (.ifCond .ne 7, 3) := by decide +kernel
theorem dX12_must_31 : decode cX12_must 31 = .ok (.iconst 1, 1) := by decide +kernel
theorem dX12_must_32 : decode cX12_must 32 = .ok (.goto 4, 3) := by decide +kernel
theorem dX12_must_35 : decode cX12_must 35 = .ok (.iconst 0, 1) := by decide +kernel
theorem dX12_must_36 : decode cX12_must 36 = .ok (.ireturn, 1) := by decide +kernel
abbrev LX12_must_24 (l1 l2 : Int32) (I : MI) (Q : Int32 → MI → Prop) : Prop := WP mX12_must 286 Rf0 24 [some (.ref 261), some (.int l1), some (.int l2)] [] I (qi Q)
set_option maxRecDepth 20000 in
theorem rX12_must_24 {l1 l2 : Int32} {I : MI} {Q : Int32 → MI → Prop} (H : ((¬ (I 261 8) = 0 → (Q 0 I)) ∧ ((I 261 8) = 0 → (Q 1 I)))) : LX12_must_24 l1 l2 I Q := by
  show WP mX12_must 286 Rf0 24 [some (.ref 261), some (.int l1), some (.int l2)] [] I (qi Q)
  refine w_aload_n dX12_must_24 rfl rfl ?_
  refine w_getI dX12_must_25 fl_12_129 okC12 kd_261 (by decide) (by decide) rfl ?_
  refine w_if_ne (t := 35) dX12_must_28 (by decide) (fun h => ?_) (fun h => ?_)
  · replace H := H.1 h
    refine w_iconst (v := 0) dX12_must_35 (by decide) ?_
    exact w_zret dX12_must_36 rfl rfl ⟨_, rfl, H⟩
  · replace H := H.2 h
    refine w_iconst (v := 1) dX12_must_31 (by decide) ?_
    refine w_goto (t := 36) dX12_must_32 (by decide) ?_
    exact w_zret dX12_must_36 rfl rfl ⟨_, rfl, H⟩
set_option maxRecDepth 20000 in
theorem rX12_must {a1 a2 : Int32} {I : MI} {Q : Int32 → MI → Prop} (H : ((¬ (I 261 8) = 0 → (LX12_must_24 a1 a2 I Q)) ∧ ((I 261 8) = 0 → ((¬ a1 = 0 → (LX12_must_24 a1 a2 I Q)) ∧ (a1 = 0 → (∀ I1 : MI, I1 = up2 I 261 8 a2 → ∀ I2 : MI, I2 = up2 I1 261 9 (I1 261 4) → LX12_must_24 a1 a2 I2 Q)))))) : Wi mX12_must [.ref 261, .int a1, .int a2] I Q := by
  show WP mX12_must 286 Rf0 0 [some (.ref 261), some (.int a1), some (.int a2)] [] I (qi Q)
  refine w_aload_n dX12_must_0 rfl rfl ?_
  refine w_getI dX12_must_1 fl_12_129 okC12 kd_261 (by decide) (by decide) rfl ?_
  refine w_if_ne (t := 24) dX12_must_4 (by decide) (fun h => ?_) (fun h => ?_)
  · replace H := H.1 h
    skip
    exact H
  · replace H := H.2 h
    refine w_iload_n dX12_must_7 rfl rfl ?_
    refine w_if_ne (t := 24) dX12_must_8 (by decide) (fun h => ?_) (fun h => ?_)
    · replace H := H.1 h
      skip
      exact H
    · replace H := H.2 h
      refine w_aload_n dX12_must_11 rfl rfl ?_
      refine w_iload_n dX12_must_12 rfl rfl ?_
      refine w_putI dX12_must_13 fl_12_129 okC12 kd_261 (by decide) (by decide) rfl rfl rfl (w_up fun I1 hI => ?_)
      replace H := H I1 hI
      refine w_aload_n dX12_must_16 rfl rfl ?_
      refine w_aload_n dX12_must_17 rfl rfl ?_
      refine w_getI dX12_must_18 fl_12_104 okC12 kd_261 (by decide) (by decide) rfl ?_
      refine w_putI dX12_must_21 fl_12_132 okC12 kd_261 (by decide) (by decide) rfl rfl rfl (w_up fun I2 hI => ?_)
      replace H := H I2 hI
      skip
      exact H
theorem dX12_number_0 : decode cX12_number 0 = .ok (.aload_n 0, 1) := by decide +kernel
theorem dX12_number_1 : decode cX12_number 1 = .ok (.aload_n 0, 1) := by decide +kernel
theorem dX12_number_2 : decode cX12_number 2 = .ok (.getfield 111, 3) := by decide +kernel
theorem dX12_number_5 : decode cX12_number 5 = .ok (.iconst 2, 1) := by decide +kernel
theorem dX12_number_6 : decode cX12_number 6 = .ok (.if_icmp .ne 7, 3) := by decide +kernel
theorem dX12_number_9 : decode cX12_number 9 = .ok (.iconst 1, 1) := by decide +kernel
theorem dX12_number_10 : decode cX12_number 10 = .ok (.goto 4, 3) := by decide +kernel
theorem dX12_number_13 : decode cX12_number 13 = .ok (.iconst 0, 1) := by decide +kernel
theorem dX12_number_14 : decode cX12_number 14 = .ok (.iconst 1, 1) := by decide +kernel
theorem dX12_number_15 : decode cX12_number 15 = .ok (.invokevirtual 144, 3) := by decide +kernel
theorem dX12_number_18 : decode cX12_number 18 = .ok (.ifCond .eq 23, 3) := by decide +kernel
theorem dX12_number_21 : decode cX12_number 21 = .ok (.aload_n 0, 1) := by decide +kernel
theorem dX12_number_22 : decode cX12_number 22 = .ok (.aload_n 0, 1) := by decide +kernel
theorem dX12_number_23 : decode cX12_number 23 = .ok (.getfield 126, 3) := by decide +kernel
theorem dX12_number_26 : decode cX12_number 26 = .ok (.i2l, 1) := by decide +kernel
theorem dX12_number_27 : decode cX12_number 27 = .ok (.iload_n 1, 1) := by decide +kernel
theorem dX12_number_28 : decode cX12_number 28 = .ok (.i2l, 1) := by decide +kernel
theorem dX12_number_29 : decode cX12_number 29 = .ok (.iload_n 2, 1) := by decide +kernel
theorem dX12_number_30 : decode cX12_number 30 = .ok (.i2l, 1) := by decide +kernel
theorem dX12_number_31 : decode cX12_number 31 = .ok (.invokestatic 118, 3) := by decide +kernel
theorem dX12_number_34 : decode cX12_number 34 = .ok (.iconst 2, 1) := by decide +kernel
theorem dX12_number_35 : decode cX12_number 35 = .ok (.invokevirtual 144, 3) := by decide +kernel
theorem dX12_number_38 : decode cX12_number 38 = .ok (.ifCond .ne 5, 3) := by decide +kernel
theorem dX12_number_41 : decode cX12_number 41 = .ok (.iconst 0, 1) := by decide +kernel
theorem dX12_number_42 : decode cX12_number 42 = .ok (.ireturn, 1) := by decide +kernel
theorem dX12_number_43 : decode cX12_number 43 = .ok (.aload_n 0, 1) := by decide +kernel
theorem dX12_number_44 : decode cX12_number 44 = .ok (.getfield 126, 3) := by decide +kernel
theorem dX12_number_47 : decode cX12_number 47 = .ok (.istore_n 3, 1) := by decide +kernel
theorem dX12_number_48 : decode cX12_number 48 = .ok (.aload_n 0, 1) := by decide +kernel
theorem dX12_number_49 : decode cX12_number 49 = .ok (.invokevirtual 148, 3) := by decide +kernel
theorem dX12_number_52 : decode cX12_number 52 = .ok (.iload_n 3, 1) := by decide +kernel
theorem dX12_number_53 : decode cX12_number 53 = .ok (.ireturn, 1) := by decide +kernel
abbrev LX12_number_14 (l1 l2 t1 : Int32) (I : MI) (Q : Int32 → MI → Prop) : Prop := WP mX12_number 286 Rf0 14 [some (.ref 261), some (.int l1), some (.int l2), none] [.int t1, .ref 261] I (qi Q)
set_option maxRecDepth 20000 in
theorem rX12_number_14 {l1 l2 t1 : Int32} {I : MI} {Q : Int32 → MI → Prop} (H : (Wi mX12_must [.ref 261, .int t1, .int 1] I (fun r2 I1 => ((r2 = 0 → (Q 0 I1)) ∧ (¬ r2 = 0 → (Wi mX12_within [.long ((I1 261 7).toInt64), .long l1.toInt64, .long l2.toInt64] I1 (fun r4 I3 => (Wi mX12_must [.ref 261, .int r4, .int 2] I3 (fun r6 I5 => ((¬ r6 = 0 → (Wv mX12_nextToken [.ref 261] I5 (fun I7 => (Q (I5 261 7) I7)))) ∧ (r6 = 0 → (Q 0 I5)))))))))))) : LX12_number_14 l1 l2 t1 I Q := by
  show WP mX12_number 286 Rf0 14 [some (.ref 261), some (.int l1), some (.int l2), none] [.int t1, .ref 261] I (qi Q)
  refine w_iconst (v := 1) dX12_number_14 (by decide) ?_
  refine w_callV (st := []) (As := [.int t1, .int 1]) dX12_number_15 ml_12_144 okX12_must kd_261 (by decide) rfl rfl rfl (Nat.le_of_ble_eq_true rfl) (by decide) (Nat.le_of_ble_eq_true rfl) (wc_i H (fun r2 I1 H => ?_))
  refine w_if_eq (t := 41) dX12_number_18 (by decide) (fun h => ?_) (fun h => ?_)
  · replace H := H.1 h
    refine w_iconst (v := 0) dX12_number_41 (by decide) ?_
    exact w_iret dX12_number_42 rfl ⟨_, rfl, H⟩
  · replace H := H.2 h
    refine w_aload_n dX12_number_21 rfl rfl ?_
    refine w_aload_n dX12_number_22 rfl rfl ?_
    refine w_getI dX12_number_23 fl_12_126 okC12 kd_261 (by decide) (by decide) rfl ?_
    refine w_i2l dX12_number_26 ?_
    refine w_iload_n dX12_number_27 rfl rfl ?_
    refine w_i2l dX12_number_28 ?_
    refine w_iload_n dX12_number_29 rfl rfl ?_
    refine w_i2l dX12_number_30 ?_
    refine w_callS (st := [.ref 261]) (As := [.long ((I1 261 7).toInt64), .long l1.toInt64, .long l2.toInt64]) dX12_number_31 ml_12_118 okX12_within rfl (Nat.le_of_ble_eq_true rfl) (by decide) (Nat.le_of_ble_eq_true rfl) (wc_i H (fun r4 I3 H => ?_))
    refine w_iconst (v := 2) dX12_number_34 (by decide) ?_
    refine w_callV (st := []) (As := [.int r4, .int 2]) dX12_number_35 ml_12_144 okX12_must kd_261 (by decide) rfl rfl rfl (Nat.le_of_ble_eq_true rfl) (by decide) (Nat.le_of_ble_eq_true rfl) (wc_i H (fun r6 I5 H => ?_))
    refine w_if_ne (t := 43) dX12_number_38 (by decide) (fun h => ?_) (fun h => ?_)
    · replace H := H.1 h
      refine w_aload_n dX12_number_43 rfl rfl ?_
      refine w_getI dX12_number_44 fl_12_126 okC12 kd_261 (by decide) (by decide) rfl ?_
      refine w_istore_n (ls' := [some (.ref 261), some (.int l1), some (.int l2), some (.int (I5 261 7))]) dX12_number_47 rfl (by decide) rfl rfl ?_
      refine w_aload_n dX12_number_48 rfl rfl ?_
      refine w_callV (st := []) (As := []) dX12_number_49 ml_12_148 okX12_nextToken kd_261 (by decide) rfl rfl rfl (Nat.le_of_ble_eq_true rfl) (by decide) (Nat.le_of_ble_eq_true rfl) (wc_v H (fun I7 H => ?_))
      refine w_iload_n dX12_number_52 rfl rfl ?_
      exact w_iret dX12_number_53 rfl ⟨_, rfl, H⟩
    · replace H := H.2 h
      refine w_iconst (v := 0) dX12_number_41 (by decide) ?_
      exact w_iret dX12_number_42 rfl ⟨_, rfl, H⟩
set_option maxRecDepth 20000 in
theorem rX12_number {a1 a2 : Int32} {I : MI} {Q : Int32 → MI → Prop} (H : ((¬ (I 261 6) = 2 → (LX12_number_14 a1 a2 0 I Q)) ∧ ((I 261 6) = 2 → (LX12_number_14 a1 a2 1 I Q)))) : Wi mX12_number [.ref 261, .int a1, .int a2] I Q := by
  show WP mX12_number 286 Rf0 0 [some (.ref 261), some (.int a1), some (.int a2), none] [] I (qi Q)
  refine w_aload_n dX12_number_0 rfl rfl ?_
  refine w_aload_n dX12_number_1 rfl rfl ?_
  refine w_getI dX12_number_2 fl_12_111 okC12 kd_261 (by decide) (by decide) rfl ?_
  refine w_iconst (v := 2) dX12_number_5 (by decide) ?_
  refine w_icmp_ne (t := 13) dX12_number_6 (by decide) (fun h => ?_) (fun h => ?_)
  · replace H := H.1 h
    refine w_iconst (v := 0) dX12_number_13 (by decide) ?_
    skip
    exact H
  · replace H := H.2 h
    refine w_iconst (v := 1) dX12_number_9 (by decide) ?_
    refine w_goto (t := 14) dX12_number_10 (by decide) ?_
    skip
    exact H
theorem dX12_isJoined_0 : decode cX12_isJoined 0 = .ok (.bipush 18, 2) := by decide +kernel
theorem dX12_isJoined_2 : decode cX12_isJoined 2 = .ok (.istore 4, 2) := by decide +kernel
theorem dX12_isJoined_4 : decode cX12_isJoined 4 = .ok (.iload 4, 2) := by decide +kernel
theorem dX12_isJoined_6 : decode cX12_isJoined 6 = .ok (.bipush 18, 2) := by decide +kernel
theorem dX12_isJoined_8 : decode cX12_isJoined 8 = .ok (.iload_n 3, 1) := by decide +kernel
theorem dX12_isJoined_9 : decode cX12_isJoined 9 = .ok (.iadd, 1) := by decide +kernel
theorem dX12_isJoined_10 : decode cX12_isJoined 10 = .ok (.if_icmp .ge 55, 3) := by decide +kernel
theorem dX12_isJoined_13 : decode cX12_isJoined 13 = .ok (.aload_n 0, 1) := by decide +kernel
theorem dX12_isJoined_14 : decode cX12_isJoined 14 = .ok (.getfield 20, 3) := by decide +kernel
theorem dX12_isJoined_17 : decode cX12_isJoined 17 = .ok (.iload 4, 2) := by decide +kernel
theorem dX12_isJoined_19 : decode cX12_isJoined 19 = .ok (.iaload, 1) := by decide +kernel
theorem dX12_isJoined_20 : decode cX12_isJoined 20 = .ok (.iload_n 1, 1) := by decide +kernel
theorem dX12_isJoined_21 : decode cX12_isJoined 21 = .ok (.if_icmp .ne 14, 3) := by decide +kernel
theorem dX12_isJoined_24 : decode cX12_isJoined 24 = .ok (.aload_n 0, 1) := by decide +kernel
theorem dX12_isJoined_25 : decode cX12_isJoined 25 = .ok (.getfield 23, 3) := by decide +kernel
theorem dX12_isJoined_28 : decode cX12_isJoined 28 = .ok (.iload 4, 2) := by decide +kernel
theorem dX12_isJoined_30 : decode cX12_isJoined 30 = .ok (.iaload, 1) := by decide +kernel
theorem dX12_isJoined_31 : decode cX12_isJoined 31 = .ok (.iload_n 2, 1) := by decide +kernel
theorem dX12_isJoined_32 : decode cX12_isJoined 32 = .ok (.if_icmp .eq 25, 3) := by decide +kernel
theorem dX12_isJoined_35 : decode cX12_isJoined 35 = .ok (.aload_n 0, 1) := by decide +kernel
theorem dX12_isJoined_36 : decode cX12_isJoined 36 = .ok (.getfield 20, 3) := by decide +kernel
theorem dX12_isJoined_39 : decode cX12_isJoined 39 = .ok (.iload 4, 2) := by decide +kernel
theorem dX12_isJoined_41 : decode cX12_isJoined 41 = .ok (.iaload, 1) := by decide +kernel
theorem dX12_isJoined_42 : decode cX12_isJoined 42 = .ok (.iload_n 2, 1) := by decide +kernel
theorem dX12_isJoined_43 : decode cX12_isJoined 43 = .ok (.if_icmp .ne 16, 3) := by decide +kernel
theorem dX12_isJoined_46 : decode cX12_isJoined 46 = .ok (.aload_n 0, 1) := by decide +kernel
theorem dX12_isJoined_47 : decode cX12_isJoined 47 = .ok (.getfield 23, 3) := by decide +kernel
theorem dX12_isJoined_50 : decode cX12_isJoined 50 = .ok (.iload 4, 2) := by decide +kernel
theorem dX12_isJoined_52 : decode cX12_isJoined 52 = .ok (.iaload, 1) := by decide +kernel
theorem dX12_isJoined_53 : decode cX12_isJoined 53 = .ok (.iload_n 1, 1) := by decide +kernel
theorem dX12_isJoined_54 : decode cX12_isJoined 54 = .ok (.if_icmp .ne 5, 3) := by decide +kernel
theorem dX12_isJoined_57 : decode cX12_isJoined 57 = .ok (.iconst 1, 1) := by decide +kernel
theorem dX12_isJoined_58 : decode cX12_isJoined 58 = .ok (.ireturn, 1) := by decide +kernel
theorem dX12_isJoined_59 : decode cX12_isJoined 59 = .ok (.iinc 4 1, 3) := by decide +kernel
theorem dX12_isJoined_62 : decode cX12_isJoined 62 = .ok (.goto (-58), 3) := by decide +kernel
theorem dX12_isJoined_65 : decode cX12_isJoined 65 = .ok (.iconst 0, 1) := by decide +kernel
theorem dX12_isJoined_66 : decode cX12_isJoined 66 = .ok (.ireturn, 1) := by decide +kernel
abbrev LX12_isJoined_4 (l1 l2 l3 l4 : Int32) (I : MI) (Q : Int32 → MI → Prop) : Prop := WP mX12_isJoined 286 Rf0 4 [some (.ref 261), some (.int l1), some (.int l2), some (.int l3), some (.int l4)] [] I (qi Q)
abbrev LX12_isJoined_35 (l1 l2 l3 l4 : Int32) (I : MI) (Q : Int32 → MI → Prop) : Prop := WP mX12_isJoined 286 Rf0 35 [some (.ref 261), some (.int l1), some (.int l2), some (.int l3), some (.int l4)] [] I (qi Q)
abbrev LX12_isJoined_59 (l1 l2 l3 l4 : Int32) (I : MI) (Q : Int32 → MI → Prop) : Prop := WP mX12_isJoined 286 Rf0 59 [some (.ref 261), some (.int l1), some (.int l2), some (.int l3), some (.int l4)] [] I (qi Q)
set_option maxRecDepth 20000 in
theorem rX12_isJoined_4 {l1 l2 l3 l4 : Int32} {I : MI} {Q : Int32 → MI → Prop} (H : (((18 + l3) ≤ l4 → (Q 0 I)) ∧ (¬ (18 + l3) ≤ l4 → (vp_in l4 36 ∧ (¬ (I 265 l4.toNatClampNeg) = l1 → (LX12_isJoined_35 l1 l2 l3 l4 I Q)) ∧ ((I 265 l4.toNatClampNeg) = l1 → (vp_in l4 36 ∧ ((I 266 l4.toNatClampNeg) = l2 → (Q 1 I)) ∧ (¬ (I 266 l4.toNatClampNeg) = l2 → (LX12_isJoined_35 l1 l2 l3 l4 I Q)))))))) : LX12_isJoined_4 l1 l2 l3 l4 I Q := by
  show WP mX12_isJoined 286 Rf0 4 [some (.ref 261), some (.int l1), some (.int l2), some (.int l3), some (.int l4)] [] I (qi Q)
  refine w_iload dX12_isJoined_4 rfl ?_
  refine w_bipush (v := 18) dX12_isJoined_6 (by decide) ?_
  refine w_iload_n dX12_isJoined_8 rfl rfl ?_
  refine w_iadd dX12_isJoined_9 ?_
  refine w_icmp_ge (t := 65) dX12_isJoined_10 (by decide) (fun h => ?_) (fun h => ?_)
  · replace H := H.1 h
    refine w_iconst (v := 0) dX12_isJoined_65 (by decide) ?_
    exact w_zret dX12_isJoined_66 rfl rfl ⟨_, rfl, H⟩
  · replace H := H.2 h
    refine w_aload_n dX12_isJoined_13 rfl rfl ?_
    refine w_getR dX12_isJoined_14 fl_12_20 okC12 kd_261 (by decide) (by decide) rfl rf_261_12 ?_
    refine w_iload dX12_isJoined_17 rfl ?_
    refine w_iald dX12_isJoined_19 kd_265 (by decide) H.1 ?_
    replace H := H.2
    refine w_iload_n dX12_isJoined_20 rfl rfl ?_
    refine w_icmp_ne (t := 35) dX12_isJoined_21 (by decide) (fun h => ?_) (fun h => ?_)
    · replace H := H.1 h
      skip
      exact H
    · replace H := H.2 h
      refine w_aload_n dX12_isJoined_24 rfl rfl ?_
      refine w_getR dX12_isJoined_25 fl_12_23 okC12 kd_261 (by decide) (by decide) rfl rf_261_13 ?_
      refine w_iload dX12_isJoined_28 rfl ?_
      refine w_iald dX12_isJoined_30 kd_266 (by decide) H.1 ?_
      replace H := H.2
      refine w_iload_n dX12_isJoined_31 rfl rfl ?_
      refine w_icmp_eq (t := 57) dX12_isJoined_32 (by decide) (fun h => ?_) (fun h => ?_)
      · replace H := H.1 h
        refine w_iconst (v := 1) dX12_isJoined_57 (by decide) ?_
        exact w_zret dX12_isJoined_58 rfl rfl ⟨_, rfl, H⟩
      · replace H := H.2 h
        skip
        exact H
set_option maxRecDepth 20000 in
theorem rX12_isJoined_35 {l1 l2 l3 l4 : Int32} {I : MI} {Q : Int32 → MI → Prop} (H : (vp_in l4 36 ∧ (¬ (I 265 l4.toNatClampNeg) = l2 → (LX12_isJoined_59 l1 l2 l3 l4 I Q)) ∧ ((I 265 l4.toNatClampNeg) = l2 → (vp_in l4 36 ∧ (¬ (I 266 l4.toNatClampNeg) = l1 → (LX12_isJoined_59 l1 l2 l3 l4 I Q)) ∧ ((I 266 l4.toNatClampNeg) = l1 → (Q 1 I)))))) : LX12_isJoined_35 l1 l2 l3 l4 I Q := by
  show WP mX12_isJoined 286 Rf0 35 [some (.ref 261), some (.int l1), some (.int l2), some (.int l3), some (.int l4)] [] I (qi Q)
  refine w_aload_n dX12_isJoined_35 rfl rfl ?_
  refine w_getR dX12_isJoined_36 fl_12_20 okC12 kd_261 (by decide) (by decide) rfl rf_261_12 ?_
  refine w_iload dX12_isJoined_39 rfl ?_
  refine w_iald dX12_isJoined_41 kd_265 (by decide) H.1 ?_
  replace H := H.2
  refine w_iload_n dX12_isJoined_42 rfl rfl ?_
  refine w_icmp_ne (t := 59) dX12_isJoined_43 (by decide) (fun h => ?_) (fun h => ?_)
  · replace H := H.1 h
    skip
    exact H
  · replace H := H.2 h
    refine w_aload_n dX12_isJoined_46 rfl rfl ?_
    refine w_getR dX12_isJoined_47 fl_12_23 okC12 kd_261 (by decide) (by decide) rfl rf_261_13 ?_
    refine w_iload dX12_isJoined_50 rfl ?_
    refine w_iald dX12_isJoined_52 kd_266 (by decide) H.1 ?_
    replace H := H.2
    refine w_iload_n dX12_isJoined_53 rfl rfl ?_
    refine w_icmp_ne (t := 59) dX12_isJoined_54 (by decide) (fun h => ?_) (fun h => ?_)
    · replace H := H.1 h
      skip
      exact H
    · replace H := H.2 h
      refine w_iconst (v := 1) dX12_isJoined_57 (by decide) ?_
      exact w_zret dX12_isJoined_58 rfl rfl ⟨_, rfl, H⟩
set_option maxRecDepth 20000 in
theorem rX12_isJoined_59 {l1 l2 l3 l4 : Int32} {I : MI} {Q : Int32 → MI → Prop} (H : (LX12_isJoined_4 l1 l2 l3 (l4 + 1) I Q)) : LX12_isJoined_59 l1 l2 l3 l4 I Q := by
  show WP mX12_isJoined 286 Rf0 59 [some (.ref 261), some (.int l1), some (.int l2), some (.int l3), some (.int l4)] [] I (qi Q)
  refine w_iinc (v := l4 + 1) (ls' := [some (.ref 261), some (.int l1), some (.int l2), some (.int l3), some (.int (l4 + 1))]) dX12_isJoined_59 rfl rfl (by decide) rfl rfl ?_
  refine w_goto (t := 4) dX12_isJoined_62 (by decide) ?_
  skip
  exact H
set_option maxRecDepth 20000 in
theorem rX12_isJoined {a1 a2 a3 : Int32} {I : MI} {Q : Int32 → MI → Prop} (H : (LX12_isJoined_4 a1 a2 a3 18 I Q)) : Wi mX12_isJoined [.ref 261, .int a1, .int a2, .int a3] I Q := by
  show WP mX12_isJoined 286 Rf0 0 [some (.ref 261), some (.int a1), some (.int a2), some (.int a3), none] [] I (qi Q)
  refine w_bipush (v := 18) dX12_isJoined_0 (by decide) ?_
  refine w_istore (ls' := [some (.ref 261), some (.int a1), some (.int a2), some (.int a3), some (.int 18)]) dX12_isJoined_2 (by decide) rfl rfl ?_
  skip
  exact H
theorem dX12_readStreet_0 : decode cX12_readStreet 0 = .ok (.aload_n 0, 1) := by decide +kernel
theorem dX12_readStreet_1 : decode cX12_readStreet 1 = .ok (.aload_n 0, 1) := by decide +kernel
theorem dX12_readStreet_2 : decode cX12_readStreet 2 = .ok (.getfield 17, 3) := by decide +kernel
theorem dX12_readStreet_5 : decode cX12_readStreet 5 = .ok (.iconst 5, 1) := by decide +kernel
theorem dX12_readStreet_6 : decode cX12_readStreet 6 = .ok (.iaload, 1) := by decide +kernel
theorem dX12_readStreet_7 : decode cX12_readStreet 7 = .ok (.bipush 18, 2) := by decide +kernel
theorem dX12_readStreet_9 : decode cX12_readStreet 9 = .ok (.if_icmp .ge 7, 3) := by decide +kernel
theorem dX12_readStreet_12 : decode cX12_readStreet 12 = .ok (.iconst 1, 1) := by decide +kernel
theorem dX12_readStreet_13 : decode cX12_readStreet 13 = .ok (.goto 4, 3) := by decide +kernel
theorem dX12_readStreet_16 : decode cX12_readStreet 16 = .ok (.iconst 0, 1) := by decide +kernel
theorem dX12_readStreet_17 : decode cX12_readStreet 17 = .ok (.iconst 4, 1) := by decide +kernel
theorem dX12_readStreet_18 : decode cX12_readStreet 18 = .ok (.invokevirtual 144, 3) := by decide +kernel
theorem dX12_readStreet_21 : decode cX12_readStreet 21 = .ok (.ifCond .ne 4, 3) := by decide +kernel
theorem dX12_readStreet_24 : decode cX12_readStreet 24 = .ok (.return_, 1) := by decide +kernel
theorem dX12_readStreet_25 : decode cX12_readStreet 25 = .ok (.bipush 18, 2) := by decide +kernel
theorem dX12_readStreet_27 : decode cX12_readStreet 27 = .ok (.aload_n 0, 1) := by decide +kernel
theorem dX12_readStreet_28 : decode cX12_readStreet 28 = .ok (.getfield 17, 3) := by decide +kernel
theorem dX12_readStreet_31 : decode cX12_readStreet 31 = .ok (.iconst 5, 1) := by decide +kernel
theorem dX12_readStreet_32 : decode cX12_readStreet 32 = .ok (.iaload, 1) := by decide +kernel
theorem dX12_readStreet_33 : decode cX12_readStreet 33 = .ok (.iadd, 1) := by decide +kernel
theorem dX12_readStreet_34 : decode cX12_readStreet 34 = .ok (.istore_n 1, 1) := by decide +kernel
theorem dX12_readStreet_35 : decode cX12_readStreet 35 = .ok (.aload_n 0, 1) := by decide +kernel
theorem dX12_readStreet_36 : decode cX12_readStreet 36 = .ok (.invokevirtual 148, 3) := by decide +kernel
theorem dX12_readStreet_39 : decode cX12_readStreet 39 = .ok (.aload_n 0, 1) := by decide +kernel
theorem dX12_readStreet_40 : decode cX12_readStreet 40 = .ok (.iconst 0, 1) := by decide +kernel
theorem dX12_readStreet_41 : decode cX12_readStreet 41 = .ok (.aload_n 0, 1) := by decide +kernel
theorem dX12_readStreet_42 : decode cX12_readStreet 42 = .ok (.getfield 17, 3) := by decide +kernel
theorem dX12_readStreet_45 : decode cX12_readStreet 45 = .ok (.iconst 0, 1) := by decide +kernel
theorem dX12_readStreet_46 : decode cX12_readStreet 46 = .ok (.iaload, 1) := by decide +kernel
theorem dX12_readStreet_47 : decode cX12_readStreet 47 = .ok (.iconst 1, 1) := by decide +kernel
theorem dX12_readStreet_48 : decode cX12_readStreet 48 = .ok (.isub, 1) := by decide +kernel
theorem dX12_readStreet_49 : decode cX12_readStreet 49 = .ok (.invokevirtual 151, 3) := by decide +kernel
theorem dX12_readStreet_52 : decode cX12_readStreet 52 = .ok (.istore_n 2, 1) := by decide +kernel
theorem dX12_readStreet_53 : decode cX12_readStreet 53 = .ok (.aload_n 0, 1) := by decide +kernel
theorem dX12_readStreet_54 : decode cX12_readStreet 54 = .ok (.getfield 129, 3) := by decide +kernel
theorem dX12_readStreet_57 : decode cX12_readStreet 57 = .ok (.ifCond .eq 4, 3) := by decide +kernel
theorem dX12_readStreet_60 : decode cX12_readStreet 60 = .ok (.return_, 1) := by decide +kernel
theorem dX12_readStreet_61 : decode cX12_readStreet 61 = .ok (.aload_n 0, 1) := by decide +kernel
theorem dX12_readStreet_62 : decode cX12_readStreet 62 = .ok (.getfield 111, 3) := by decide +kernel
theorem dX12_readStreet_65 : decode cX12_readStreet 65 = .ok (.iconst 2, 1) := by decide +kernel
theorem dX12_readStreet_66 : decode cX12_readStreet 66 = .ok (.if_icmp .ne 61, 3) := by decide +kernel
theorem dX12_readStreet_69 : decode cX12_readStreet 69 = .ok (.aload_n 0, 1) := by decide +kernel
theorem dX12_readStreet_70 : decode cX12_readStreet 70 = .ok (.getfield 126, 3) := by decide +kernel
theorem dX12_readStreet_73 : decode cX12_readStreet 73 = .ok (.i2l, 1) := by decide +kernel
theorem dX12_readStreet_74 : decode cX12_readStreet 74 = .ok (.lconst 0, 1) := by decide +kernel
theorem dX12_readStreet_75 : decode cX12_readStreet 75 = .ok (.aload_n 0, 1) := by decide +kernel
theorem dX12_readStreet_76 : decode cX12_readStreet 76 = .ok (.getfield 17, 3) := by decide +kernel
theorem dX12_readStreet_79 : decode cX12_readStreet 79 = .ok (.iconst 0, 1) := by decide +kernel
theorem dX12_readStreet_80 : decode cX12_readStreet 80 = .ok (.iaload, 1) := by decide +kernel
theorem dX12_readStreet_81 : decode cX12_readStreet 81 = .ok (.iconst 1, 1) := by decide +kernel
theorem dX12_readStreet_82 : decode cX12_readStreet 82 = .ok (.isub, 1) := by decide +kernel
theorem dX12_readStreet_83 : decode cX12_readStreet 83 = .ok (.i2l, 1) := by decide +kernel
theorem dX12_readStreet_84 : decode cX12_readStreet 84 = .ok (.invokestatic 118, 3) := by decide +kernel
theorem dX12_readStreet_87 : decode cX12_readStreet 87 = .ok (.ifCond .eq 40, 3) := by decide +kernel
theorem dX12_readStreet_90 : decode cX12_readStreet 90 = .ok (.aload_n 0, 1) := by decide +kernel
theorem dX12_readStreet_91 : decode cX12_readStreet 91 = .ok (.aload_n 0, 1) := by decide +kernel
theorem dX12_readStreet_92 : decode cX12_readStreet 92 = .ok (.getfield 126, 3) := by decide +kernel
theorem dX12_readStreet_95 : decode cX12_readStreet 95 = .ok (.iload_n 2, 1) := by decide +kernel
theorem dX12_readStreet_96 : decode cX12_readStreet 96 = .ok (.if_icmp .eq 25, 3) := by decide +kernel
theorem dX12_readStreet_99 : decode cX12_readStreet 99 = .ok (.aload_n 0, 1) := by decide +kernel
theorem dX12_readStreet_100 : decode cX12_readStreet 100 = .ok (.iload_n 2, 1) := by decide +kernel
theorem dX12_readStreet_101 : decode cX12_readStreet 101 = .ok (.aload_n 0, 1) := by decide +kernel
theorem dX12_readStreet_102 : decode cX12_readStreet 102 = .ok (.getfield 126, 3) := by decide +kernel
theorem dX12_readStreet_105 : decode cX12_readStreet 105 = .ok (.aload_n 0, 1) := by decide +kernel
theorem dX12_readStreet_106 : decode cX12_readStreet 106 = .ok (.getfield 17, 3) := by decide +kernel
theorem dX12_readStreet_109 : decode cX12_readStreet 109 = .ok (.iconst 5, 1) := by decide +kernel
theorem dX12_readStreet_110 : decode cX12_readStreet 110 = .ok (.iaload, 1) := by decide +kernel
theorem dX12_readStreet_111 : decode cX12_readStreet 111 = .ok (.invokevirtual 155, 3) := by decide +kernel
theorem dX12_readStreet_114 : decode cX12_readStreet 114 = .ok (.ifCond .ne 7, 3) := by decide +kernel
theorem dX12_readStreet_117 : decode cX12_readStreet 117 = .ok (.iconst 1, 1) := by decide +kernel
theorem dX12_readStreet_118 : decode cX12_readStreet 118 = .ok (.goto 4, 3) := by decide +kernel
theorem dX12_readStreet_121 : decode cX12_readStreet 121 = .ok (.iconst 0, 1) := by decide +kernel
theorem dX12_readStreet_122 : decode cX12_readStreet 122 = .ok (.iconst 3, 1) := by decide +kernel
theorem dX12_readStreet_123 : decode cX12_readStreet 123 = .ok (.invokevirtual 144, 3) := by decide +kernel
theorem dX12_readStreet_126 : decode cX12_readStreet 126 = .ok (.pop, 1) := by decide +kernel
theorem dX12_readStreet_127 : decode cX12_readStreet 127 = .ok (.aload_n 0, 1) := by decide +kernel
theorem dX12_readStreet_128 : decode cX12_readStreet 128 = .ok (.getfield 129, 3) := by decide +kernel
theorem dX12_readStreet_131 : decode cX12_readStreet 131 = .ok (.ifCond .ne 19, 3) := by decide +kernel
theorem dX12_readStreet_134 : decode cX12_readStreet 134 = .ok (.aload_n 0, 1) := by decide +kernel
theorem dX12_readStreet_135 : decode cX12_readStreet 135 = .ok (.iconst 0, 1) := by decide +kernel
theorem dX12_readStreet_136 : decode cX12_readStreet 136 = .ok (.aload_n 0, 1) := by decide +kernel
theorem dX12_readStreet_137 : decode cX12_readStreet 137 = .ok (.getfield 17, 3) := by decide +kernel
theorem dX12_readStreet_140 : decode cX12_readStreet 140 = .ok (.iconst 0, 1) := by decide +kernel
theorem dX12_readStreet_141 : decode cX12_readStreet 141 = .ok (.iaload, 1) := by decide +kernel
theorem dX12_readStreet_142 : decode cX12_readStreet 142 = .ok (.iconst 1, 1) := by decide +kernel
theorem dX12_readStreet_143 : decode cX12_readStreet 143 = .ok (.isub, 1) := by decide +kernel
theorem dX12_readStreet_144 : decode cX12_readStreet 144 = .ok (.invokevirtual 151, 3) := by decide +kernel
theorem dX12_readStreet_147 : decode cX12_readStreet 147 = .ok (.goto 4, 3) := by decide +kernel
theorem dX12_readStreet_150 : decode cX12_readStreet 150 = .ok (.iconst 0, 1) := by decide +kernel
theorem dX12_readStreet_151 : decode cX12_readStreet 151 = .ok (.istore_n 3, 1) := by decide +kernel
theorem dX12_readStreet_152 : decode cX12_readStreet 152 = .ok (.aload_n 0, 1) := by decide +kernel
theorem dX12_readStreet_153 : decode cX12_readStreet 153 = .ok (.getfield 129, 3) := by decide +kernel
theorem dX12_readStreet_156 : decode cX12_readStreet 156 = .ok (.ifCond .ne 13, 3) := by decide +kernel
theorem dX12_readStreet_159 : decode cX12_readStreet 159 = .ok (.aload_n 0, 1) := by decide +kernel
theorem dX12_readStreet_160 : decode cX12_readStreet 160 = .ok (.iconst 1, 1) := by decide +kernel
theorem dX12_readStreet_161 : decode cX12_readStreet 161 = .ok (.bipush 99, 2) := by decide +kernel
theorem dX12_readStreet_163 : decode cX12_readStreet 163 = .ok (.invokevirtual 151, 3) := by decide +kernel
theorem dX12_readStreet_166 : decode cX12_readStreet 166 = .ok (.goto 4, 3) := by decide +kernel
theorem dX12_readStreet_169 : decode cX12_readStreet 169 = .ok (.iconst 0, 1) := by decide +kernel
theorem dX12_readStreet_170 : decode cX12_readStreet 170 = .ok (.istore 4, 2) := by decide +kernel
theorem dX12_readStreet_172 : decode cX12_readStreet 172 = .ok (.aload_n 0, 1) := by decide +kernel
theorem dX12_readStreet_173 : decode cX12_readStreet 173 = .ok (.getfield 129, 3) := by decide +kernel
theorem dX12_readStreet_176 : decode cX12_readStreet 176 = .ok (.ifCond .eq 4, 3) := by decide +kernel
theorem dX12_readStreet_179 : decode cX12_readStreet 179 = .ok (.return_, 1) := by decide +kernel
theorem dX12_readStreet_180 : decode cX12_readStreet 180 = .ok (.aload_n 0, 1) := by decide +kernel
theorem dX12_readStreet_181 : decode cX12_readStreet 181 = .ok (.getfield 20, 3) := by decide +kernel
theorem dX12_readStreet_184 : decode cX12_readStreet 184 = .ok (.iload_n 1, 1) := by decide +kernel
theorem dX12_readStreet_185 : decode cX12_readStreet 185 = .ok (.iload_n 2, 1) := by decide +kernel
theorem dX12_readStreet_186 : decode cX12_readStreet 186 = .ok (.iastore, 1) := by decide +kernel
theorem dX12_readStreet_187 : decode cX12_readStreet 187 = .ok (.aload_n 0, 1) := by decide +kernel
theorem dX12_readStreet_188 : decode cX12_readStreet 188 = .ok (.getfield 23, 3) := by decide +kernel
theorem dX12_readStreet_191 : decode cX12_readStreet 191 = .ok (.iload_n 1, 1) := by decide +kernel
theorem dX12_readStreet_192 : decode cX12_readStreet 192 = .ok (.iload_n 3, 1) := by decide +kernel
theorem dX12_readStreet_193 : decode cX12_readStreet 193 = .ok (.iastore, 1) := by decide +kernel
theorem dX12_readStreet_194 : decode cX12_readStreet 194 = .ok (.aload_n 0, 1) := by decide +kernel
theorem dX12_readStreet_195 : decode cX12_readStreet 195 = .ok (.getfield 26, 3) := by decide +kernel
theorem dX12_readStreet_198 : decode cX12_readStreet 198 = .ok (.iload_n 1, 1) := by decide +kernel
theorem dX12_readStreet_199 : decode cX12_readStreet 199 = .ok (.iload 4, 2) := by decide +kernel
theorem dX12_readStreet_201 : decode cX12_readStreet 201 = .ok (.iastore, 1) := by decide +kernel
theorem dX12_readStreet_202 : decode cX12_readStreet 202 = .ok (.aload_n 0, 1) := by decide +kernel
theorem dX12_readStreet_203 : decode cX12_readStreet 203 = .ok (.getfield 29, 3) := by decide +kernel
theorem dX12_readStreet_206 : decode cX12_readStreet 206 = .ok (.iload_n 1, 1) := by decide +kernel
theorem dX12_readStreet_207 : decode cX12_readStreet 207 = .ok (.iconst (-1), 1) := by decide +kernel
theorem dX12_readStreet_208 : decode cX12_readStreet 208 = .ok (.iastore, 1) := by decide +kernel
theorem dX12_readStreet_209 : decode cX12_readStreet 209 = .ok (.aload_n 0, 1) := by decide +kernel
theorem dX12_readStreet_210 : decode cX12_readStreet 210 = .ok (.getfield 32, 3) := by decide +kernel
theorem dX12_readStreet_213 : decode cX12_readStreet 213 = .ok (.iload_n 1, 1) := by decide +kernel
theorem dX12_readStreet_214 : decode cX12_readStreet 214 = .ok (.iconst (-1), 1) := by decide +kernel
theorem dX12_readStreet_215 : decode cX12_readStreet 215 = .ok (.iastore, 1) := by decide +kernel
theorem dX12_readStreet_216 : decode cX12_readStreet 216 = .ok (.aload_n 0, 1) := by decide +kernel
theorem dX12_readStreet_217 : decode cX12_readStreet 217 = .ok (.ldc 159, 2) := by decide +kernel
theorem dX12_readStreet_219 : decode cX12_readStreet 219 = .ok (.invokevirtual 161, 3) := by decide +kernel
theorem dX12_readStreet_222 : decode cX12_readStreet 222 = .ok (.ifCond .eq 49, 3) := by decide +kernel
theorem dX12_readStreet_225 : decode cX12_readStreet 225 = .ok (.aload_n 0, 1) := by decide +kernel
theorem dX12_readStreet_226 : decode cX12_readStreet 226 = .ok (.invokevirtual 148, 3) := by decide +kernel
theorem dX12_readStreet_229 : decode cX12_readStreet 229 = .ok (.aload_n 0, 1) := by decide +kernel
theorem dX12_readStreet_230 : decode cX12_readStreet 230 = .ok (.getfield 29, 3) := by decide +kernel
theorem dX12_readStreet_233 : decode cX12_readStreet 233 = .ok (.iload_n 1, 1) := by decide +kernel
theorem dX12_readStreet_234 : decode cX12_readStreet 234 = .ok (.aload_n 0, 1) := by decide +kernel
theorem dX12_readStreet_235 : decode cX12_readStreet 235 = .ok (.iconst 0, 1) := by decide +kernel
theorem dX12_readStreet_236 : decode cX12_readStreet 236 = .ok (.sipush 1439, 3) := by decide +kernel
theorem dX12_readStreet_239 : decode cX12_readStreet 239 = .ok (.invokevirtual 151, 3) := by decide +kernel
theorem dX12_readStreet_242 : decode cX12_readStreet 242 = .ok (.iastore, 1) := by decide +kernel
theorem dX12_readStreet_243 : decode cX12_readStreet 243 = .ok (.aload_n 0, 1) := by decide +kernel
theorem dX12_readStreet_244 : decode cX12_readStreet 244 = .ok (.getfield 129, 3) := by decide +kernel
theorem dX12_readStreet_247 : decode cX12_readStreet 247 = .ok (.ifCond .ne 24, 3) := by decide +kernel
theorem dX12_readStreet_250 : decode cX12_readStreet 250 = .ok (.aload_n 0, 1) := by decide +kernel
theorem dX12_readStreet_251 : decode cX12_readStreet 251 = .ok (.getfield 32, 3) := by decide +kernel
theorem dX12_readStreet_254 : decode cX12_readStreet 254 = .ok (.iload_n 1, 1) := by decide +kernel
theorem dX12_readStreet_255 : decode cX12_readStreet 255 = .ok (.aload_n 0, 1) := by decide +kernel
theorem dX12_readStreet_256 : decode cX12_readStreet 256 = .ok (.aload_n 0, 1) := by decide +kernel
theorem dX12_readStreet_257 : decode cX12_readStreet 257 = .ok (.getfield 29, 3) := by decide +kernel
theorem dX12_readStreet_260 : decode cX12_readStreet 260 = .ok (.iload_n 1, 1) := by decide +kernel
theorem dX12_readStreet_261 : decode cX12_readStreet 261 = .ok (.iaload, 1) := by decide +kernel
theorem dX12_readStreet_262 : decode cX12_readStreet 262 = .ok (.iconst 1, 1) := by decide +kernel
theorem dX12_readStreet_263 : decode cX12_readStreet 263 = .ok (.iadd, 1) := by decide +kernel
theorem dX12_readStreet_264 : decode cX12_readStreet 264 = .ok (.sipush 1440, 3) := by decide +kernel
theorem dX12_readStreet_267 : decode cX12_readStreet 267 = .ok (.invokevirtual 151, 3) := by decide +kernel
theorem dX12_readStreet_270 : decode cX12_readStreet 270 = .ok (.iastore, 1) := by decide +kernel
theorem dX12_readStreet_271 : decode cX12_readStreet 271 = .ok (.aload_n 0, 1) := by decide +kernel
theorem dX12_readStreet_272 : decode cX12_readStreet 272 = .ok (.getfield 17, 3) := by decide +kernel
theorem dX12_readStreet_275 : decode cX12_readStreet 275 = .ok (.iconst 5, 1) := by decide +kernel
theorem dX12_readStreet_276 : decode cX12_readStreet 276 = .ok (.dup2, 1) := by decide +kernel
theorem dX12_readStreet_277 : decode cX12_readStreet 277 = .ok (.iaload, 1) := by decide +kernel
theorem dX12_readStreet_278 : decode cX12_readStreet 278 = .ok (.iconst 1, 1) := by decide +kernel
theorem dX12_readStreet_279 : decode cX12_readStreet 279 = .ok (.iadd, 1) := by decide +kernel
theorem dX12_readStreet_280 : decode cX12_readStreet 280 = .ok (.iastore, 1) := by decide +kernel
theorem dX12_readStreet_281 : decode cX12_readStreet 281 = .ok (.return_, 1) := by decide +kernel
abbrev LX12_readStreet_17 (t1 : Int32) (I : MI) (Q : MI → Prop) : Prop := WP mX12_readStreet 286 Rf0 17 [some (.ref 261), none, none, none, none] [.int t1, .ref 261] I (qv Q)
abbrev LX12_readStreet_121 (l1 l2 : Int32) (I : MI) (Q : MI → Prop) : Prop := WP mX12_readStreet 286 Rf0 121 [some (.ref 261), some (.int l1), some (.int l2), none, none] [.ref 261] I (qv Q)
abbrev LX12_readStreet_122 (l1 l2 t1 : Int32) (I : MI) (Q : MI → Prop) : Prop := WP mX12_readStreet 286 Rf0 122 [some (.ref 261), some (.int l1), some (.int l2), none, none] [.int t1, .ref 261] I (qv Q)
abbrev LX12_readStreet_127 (l1 l2 : Int32) (I : MI) (Q : MI → Prop) : Prop := WP mX12_readStreet 286 Rf0 127 [some (.ref 261), some (.int l1), some (.int l2), none, none] [] I (qv Q)
abbrev LX12_readStreet_151 (l1 l2 t0 : Int32) (I : MI) (Q : MI → Prop) : Prop := WP mX12_readStreet 286 Rf0 151 [some (.ref 261), some (.int l1), some (.int l2), none, none] [.int t0] I (qv Q)
abbrev LX12_readStreet_170 (l1 l2 l3 t0 : Int32) (I : MI) (Q : MI → Prop) : Prop := WP mX12_readStreet 286 Rf0 170 [some (.ref 261), some (.int l1), some (.int l2), some (.int l3), none] [.int t0] I (qv Q)
abbrev LX12_readStreet_271 (l1 l2 l3 l4 : Int32) (I : MI) (Q : MI → Prop) : Prop := WP mX12_readStreet 286 Rf0 271 [some (.ref 261), some (.int l1), some (.int l2), some (.int l3), some (.int l4)] [] I (qv Q)
set_option maxRecDepth 20000 in
theorem rX12_readStreet_17 {t1 : Int32} {I : MI} {Q : MI → Prop} (H : (Wi mX12_must [.ref 261, .int t1, .int 4] I (fun r2 I1 => ((¬ r2 = 0 → (vp_in 5 7 ∧ Wv mX12_nextToken [.ref 261] I1 (fun I3 => (vp_in 0 7 ∧ Wi mX12_number [.ref 261, .int 0, .int ((I3 264 (0 : Int32).toNatClampNeg) - 1)] I3 (fun r5 I4 => (((I4 261 8) = 0 → ((¬ (I4 261 6) = 2 → (LX12_readStreet_127 (18 + (I1 264 (5 : Int32).toNatClampNeg)) r5 I4 Q)) ∧ ((I4 261 6) = 2 → (vp_in 0 7 ∧ Wi mX12_within [.long ((I4 261 7).toInt64), .long 0, .long (((I4 264 (0 : Int32).toNatClampNeg) - 1).toInt64)] I4 (fun r7 I6 => ((r7 = 0 → (LX12_readStreet_127 (18 + (I1 264 (5 : Int32).toNatClampNeg)) r5 I6 Q)) ∧ (¬ r7 = 0 → (((I6 261 7) = r5 → (LX12_readStreet_121 (18 + (I1 264 (5 : Int32).toNatClampNeg)) r5 I6 Q)) ∧ (¬ (I6 261 7) = r5 → (vp_in 5 7 ∧ Wi mX12_isJoined [.ref 261, .int r5, .int (I6 261 7), .int (I6 264 (5 : Int32).toNatClampNeg)] I6 (fun r9 I8 => ((¬ r9 = 0 → (LX12_readStreet_121 (18 + (I1 264 (5 : Int32).toNatClampNeg)) r5 I8 Q)) ∧ (r9 = 0 → (LX12_readStreet_122 (18 + (I1 264 (5 : Int32).toNatClampNeg)) r5 1 I8 Q)))))))))))))) ∧ (¬ (I4 261 8) = 0 → (Q I4)))))))) ∧ (r2 = 0 → (Q I1)))))) : LX12_readStreet_17 t1 I Q := by
  show WP mX12_readStreet 286 Rf0 17 [some (.ref 261), none, none, none, none] [.int t1, .ref 261] I (qv Q)
  refine w_iconst (v := 4) dX12_readStreet_17 (by decide) ?_
  refine w_callV (st := []) (As := [.int t1, .int 4]) dX12_readStreet_18 ml_12_144 okX12_must kd_261 (by decide) rfl rfl rfl (Nat.le_of_ble_eq_true rfl) (by decide) (Nat.le_of_ble_eq_true rfl) (wc_i H (fun r2 I1 H => ?_))
  refine w_if_ne (t := 25) dX12_readStreet_21 (by decide) (fun h => ?_) (fun h => ?_)
  · replace H := H.1 h
    refine w_bipush (v := 18) dX12_readStreet_25 (by decide) ?_
    refine w_aload_n dX12_readStreet_27 rfl rfl ?_
    refine w_getR dX12_readStreet_28 fl_12_17 okC12 kd_261 (by decide) (by decide) rfl rf_261_11 ?_
    refine w_iconst (v := 5) dX12_readStreet_31 (by decide) ?_
    refine w_iald dX12_readStreet_32 kd_264 (by decide) H.1 ?_
    replace H := H.2
    refine w_iadd dX12_readStreet_33 ?_
    refine w_istore_n (ls' := [some (.ref 261), some (.int (18 + (I1 264 (5 : Int32).toNatClampNeg))), none, none, none]) dX12_readStreet_34 rfl (by decide) rfl rfl ?_
    refine w_aload_n dX12_readStreet_35 rfl rfl ?_
    refine w_callV (st := []) (As := []) dX12_readStreet_36 ml_12_148 okX12_nextToken kd_261 (by decide) rfl rfl rfl (Nat.le_of_ble_eq_true rfl) (by decide) (Nat.le_of_ble_eq_true rfl) (wc_v H (fun I3 H => ?_))
    refine w_aload_n dX12_readStreet_39 rfl rfl ?_
    refine w_iconst (v := 0) dX12_readStreet_40 (by decide) ?_
    refine w_aload_n dX12_readStreet_41 rfl rfl ?_
    refine w_getR dX12_readStreet_42 fl_12_17 okC12 kd_261 (by decide) (by decide) rfl rf_261_11 ?_
    refine w_iconst (v := 0) dX12_readStreet_45 (by decide) ?_
    refine w_iald dX12_readStreet_46 kd_264 (by decide) H.1 ?_
    replace H := H.2
    refine w_iconst (v := 1) dX12_readStreet_47 (by decide) ?_
    refine w_isub dX12_readStreet_48 ?_
    refine w_callV (st := []) (As := [.int 0, .int ((I3 264 (0 : Int32).toNatClampNeg) - 1)]) dX12_readStreet_49 ml_12_151 okX12_number kd_261 (by decide) rfl rfl rfl (Nat.le_of_ble_eq_true rfl) (by decide) (Nat.le_of_ble_eq_true rfl) (wc_i H (fun r5 I4 H => ?_))
    refine w_istore_n (ls' := [some (.ref 261), some (.int (18 + (I1 264 (5 : Int32).toNatClampNeg))), some (.int r5), none, none]) dX12_readStreet_52 rfl (by decide) rfl rfl ?_
    refine w_aload_n dX12_readStreet_53 rfl rfl ?_
    refine w_getI dX12_readStreet_54 fl_12_129 okC12 kd_261 (by decide) (by decide) rfl ?_
    refine w_if_eq (t := 61) dX12_readStreet_57 (by decide) (fun h => ?_) (fun h => ?_)
    · replace H := H.1 h
      refine w_aload_n dX12_readStreet_61 rfl rfl ?_
      refine w_getI dX12_readStreet_62 fl_12_111 okC12 kd_261 (by decide) (by decide) rfl ?_
      refine w_iconst (v := 2) dX12_readStreet_65 (by decide) ?_
      refine w_icmp_ne (t := 127) dX12_readStreet_66 (by decide) (fun h => ?_) (fun h => ?_)
      · replace H := H.1 h
        skip
        exact H
      · replace H := H.2 h
        refine w_aload_n dX12_readStreet_69 rfl rfl ?_
        refine w_getI dX12_readStreet_70 fl_12_126 okC12 kd_261 (by decide) (by decide) rfl ?_
        refine w_i2l dX12_readStreet_73 ?_
        refine w_lconst (v := 0) dX12_readStreet_74 (by decide) ?_
        refine w_aload_n dX12_readStreet_75 rfl rfl ?_
        refine w_getR dX12_readStreet_76 fl_12_17 okC12 kd_261 (by decide) (by decide) rfl rf_261_11 ?_
        refine w_iconst (v := 0) dX12_readStreet_79 (by decide) ?_
        refine w_iald dX12_readStreet_80 kd_264 (by decide) H.1 ?_
        replace H := H.2
        refine w_iconst (v := 1) dX12_readStreet_81 (by decide) ?_
        refine w_isub dX12_readStreet_82 ?_
        refine w_i2l dX12_readStreet_83 ?_
        refine w_callS (st := []) (As := [.long ((I4 261 7).toInt64), .long 0, .long (((I4 264 (0 : Int32).toNatClampNeg) - 1).toInt64)]) dX12_readStreet_84 ml_12_118 okX12_within rfl (Nat.le_of_ble_eq_true rfl) (by decide) (Nat.le_of_ble_eq_true rfl) (wc_i H (fun r7 I6 H => ?_))
        refine w_if_eq (t := 127) dX12_readStreet_87 (by decide) (fun h => ?_) (fun h => ?_)
        · replace H := H.1 h
          skip
          exact H
        · replace H := H.2 h
          refine w_aload_n dX12_readStreet_90 rfl rfl ?_
          refine w_aload_n dX12_readStreet_91 rfl rfl ?_
          refine w_getI dX12_readStreet_92 fl_12_126 okC12 kd_261 (by decide) (by decide) rfl ?_
          refine w_iload_n dX12_readStreet_95 rfl rfl ?_
          refine w_icmp_eq (t := 121) dX12_readStreet_96 (by decide) (fun h => ?_) (fun h => ?_)
          · replace H := H.1 h
            skip
            exact H
          · replace H := H.2 h
            refine w_aload_n dX12_readStreet_99 rfl rfl ?_
            refine w_iload_n dX12_readStreet_100 rfl rfl ?_
            refine w_aload_n dX12_readStreet_101 rfl rfl ?_
            refine w_getI dX12_readStreet_102 fl_12_126 okC12 kd_261 (by decide) (by decide) rfl ?_
            refine w_aload_n dX12_readStreet_105 rfl rfl ?_
            refine w_getR dX12_readStreet_106 fl_12_17 okC12 kd_261 (by decide) (by decide) rfl rf_261_11 ?_
            refine w_iconst (v := 5) dX12_readStreet_109 (by decide) ?_
            refine w_iald dX12_readStreet_110 kd_264 (by decide) H.1 ?_
            replace H := H.2
            refine w_callV (st := [.ref 261]) (As := [.int r5, .int (I6 261 7), .int (I6 264 (5 : Int32).toNatClampNeg)]) dX12_readStreet_111 ml_12_155 okX12_isJoined kd_261 (by decide) rfl rfl rfl (Nat.le_of_ble_eq_true rfl) (by decide) (Nat.le_of_ble_eq_true rfl) (wc_i H (fun r9 I8 H => ?_))
            refine w_if_ne (t := 121) dX12_readStreet_114 (by decide) (fun h => ?_) (fun h => ?_)
            · replace H := H.1 h
              skip
              exact H
            · replace H := H.2 h
              refine w_iconst (v := 1) dX12_readStreet_117 (by decide) ?_
              refine w_goto (t := 122) dX12_readStreet_118 (by decide) ?_
              skip
              exact H
    · replace H := H.2 h
      exact w_vret dX12_readStreet_60 rfl ⟨rfl, H⟩
  · replace H := H.2 h
    exact w_vret dX12_readStreet_24 rfl ⟨rfl, H⟩
set_option maxRecDepth 20000 in
theorem rX12_readStreet_121 {l1 l2 : Int32} {I : MI} {Q : MI → Prop} (H : (LX12_readStreet_122 l1 l2 0 I Q)) : LX12_readStreet_121 l1 l2 I Q := by
  show WP mX12_readStreet 286 Rf0 121 [some (.ref 261), some (.int l1), some (.int l2), none, none] [.ref 261] I (qv Q)
  refine w_iconst (v := 0) dX12_readStreet_121 (by decide) ?_
  skip
  exact H
set_option maxRecDepth 20000 in
theorem rX12_readStreet_122 {l1 l2 t1 : Int32} {I : MI} {Q : MI → Prop} (H : (Wi mX12_must [.ref 261, .int t1, .int 3] I (fun r2 I1 => (LX12_readStreet_127 l1 l2 I1 Q)))) : LX12_readStreet_122 l1 l2 t1 I Q := by
  show WP mX12_readStreet 286 Rf0 122 [some (.ref 261), some (.int l1), some (.int l2), none, none] [.int t1, .ref 261] I (qv Q)
  refine w_iconst (v := 3) dX12_readStreet_122 (by decide) ?_
  refine w_callV (st := []) (As := [.int t1, .int 3]) dX12_readStreet_123 ml_12_144 okX12_must kd_261 (by decide) rfl rfl rfl (Nat.le_of_ble_eq_true rfl) (by decide) (Nat.le_of_ble_eq_true rfl) (wc_i H (fun r2 I1 H => ?_))
  refine w_pop dX12_readStreet_126 rfl ?_
  skip
  exact H
set_option maxRecDepth 20000 in
theorem rX12_readStreet_127 {l1 l2 : Int32} {I : MI} {Q : MI → Prop} (H : ((¬ (I 261 8) = 0 → (LX12_readStreet_151 l1 l2 0 I Q)) ∧ ((I 261 8) = 0 → (vp_in 0 7 ∧ Wi mX12_number [.ref 261, .int 0, .int ((I 264 (0 : Int32).toNatClampNeg) - 1)] I (fun r2 I1 => (LX12_readStreet_151 l1 l2 r2 I1 Q)))))) : LX12_readStreet_127 l1 l2 I Q := by
  show WP mX12_readStreet 286 Rf0 127 [some (.ref 261), some (.int l1), some (.int l2), none, none] [] I (qv Q)
  refine w_aload_n dX12_readStreet_127 rfl rfl ?_
  refine w_getI dX12_readStreet_128 fl_12_129 okC12 kd_261 (by decide) (by decide) rfl ?_
  refine w_if_ne (t := 150) dX12_readStreet_131 (by decide) (fun h => ?_) (fun h => ?_)
  · replace H := H.1 h
    refine w_iconst (v := 0) dX12_readStreet_150 (by decide) ?_
    skip
    exact H
  · replace H := H.2 h
    refine w_aload_n dX12_readStreet_134 rfl rfl ?_
    refine w_iconst (v := 0) dX12_readStreet_135 (by decide) ?_
    refine w_aload_n dX12_readStreet_136 rfl rfl ?_
    refine w_getR dX12_readStreet_137 fl_12_17 okC12 kd_261 (by decide) (by decide) rfl rf_261_11 ?_
    refine w_iconst (v := 0) dX12_readStreet_140 (by decide) ?_
    refine w_iald dX12_readStreet_141 kd_264 (by decide) H.1 ?_
    replace H := H.2
    refine w_iconst (v := 1) dX12_readStreet_142 (by decide) ?_
    refine w_isub dX12_readStreet_143 ?_
    refine w_callV (st := []) (As := [.int 0, .int ((I 264 (0 : Int32).toNatClampNeg) - 1)]) dX12_readStreet_144 ml_12_151 okX12_number kd_261 (by decide) rfl rfl rfl (Nat.le_of_ble_eq_true rfl) (by decide) (Nat.le_of_ble_eq_true rfl) (wc_i H (fun r2 I1 H => ?_))
    refine w_goto (t := 151) dX12_readStreet_147 (by decide) ?_
    skip
    exact H
set_option maxRecDepth 20000 in
theorem rX12_readStreet_151 {l1 l2 t0 : Int32} {I : MI} {Q : MI → Prop} (H : ((¬ (I 261 8) = 0 → (LX12_readStreet_170 l1 l2 t0 0 I Q)) ∧ ((I 261 8) = 0 → (Wi mX12_number [.ref 261, .int 1, .int 99] I (fun r2 I1 => (LX12_readStreet_170 l1 l2 t0 r2 I1 Q)))))) : LX12_readStreet_151 l1 l2 t0 I Q := by
  show WP mX12_readStreet 286 Rf0 151 [some (.ref 261), some (.int l1), some (.int l2), none, none] [.int t0] I (qv Q)
  refine w_istore_n (ls' := [some (.ref 261), some (.int l1), some (.int l2), some (.int t0), none]) dX12_readStreet_151 rfl (by decide) rfl rfl ?_
  refine w_aload_n dX12_readStreet_152 rfl rfl ?_
  refine w_getI dX12_readStreet_153 fl_12_129 okC12 kd_261 (by decide) (by decide) rfl ?_
  refine w_if_ne (t := 169) dX12_readStreet_156 (by decide) (fun h => ?_) (fun h => ?_)
  · replace H := H.1 h
    refine w_iconst (v := 0) dX12_readStreet_169 (by decide) ?_
    skip
    exact H
  · replace H := H.2 h
    refine w_aload_n dX12_readStreet_159 rfl rfl ?_
    refine w_iconst (v := 1) dX12_readStreet_160 (by decide) ?_
    refine w_bipush (v := 99) dX12_readStreet_161 (by decide) ?_
    refine w_callV (st := []) (As := [.int 1, .int 99]) dX12_readStreet_163 ml_12_151 okX12_number kd_261 (by decide) rfl rfl rfl (Nat.le_of_ble_eq_true rfl) (by decide) (Nat.le_of_ble_eq_true rfl) (wc_i H (fun r2 I1 H => ?_))
    refine w_goto (t := 170) dX12_readStreet_166 (by decide) ?_
    skip
    exact H
set_option maxRecDepth 20000 in
theorem rX12_readStreet_170 {l1 l2 l3 t0 : Int32} {I : MI} {Q : MI → Prop} (H : (((I 261 8) = 0 → (vp_in l1 36 ∧ ∀ I1 : MI, I1 = up2 I 265 l1.toNatClampNeg l2 → vp_in l1 36 ∧ ∀ I2 : MI, I2 = up2 I1 266 l1.toNatClampNeg l3 → vp_in l1 36 ∧ ∀ I3 : MI, I3 = up2 I2 267 l1.toNatClampNeg t0 → vp_in l1 36 ∧ ∀ I4 : MI, I4 = up2 I3 268 l1.toNatClampNeg (-1) → vp_in l1 36 ∧ ∀ I5 : MI, I5 = up2 I4 269 l1.toNatClampNeg (-1) → Wi mX12_is [.ref 261, .retAddr (2 * 6 + 1)] I5 (fun r7 I6 => ((r7 = 0 → (LX12_readStreet_271 l1 l2 l3 t0 I6 Q)) ∧ (¬ r7 = 0 → (Wv mX12_nextToken [.ref 261] I6 (fun I8 => (Wi mX12_number [.ref 261, .int 0, .int 1439] I8 (fun r10 I9 => (vp_in l1 36 ∧ ∀ I11 : MI, I11 = up2 I9 268 l1.toNatClampNeg r10 → (¬ (I11 261 8) = 0 → (LX12_readStreet_271 l1 l2 l3 t0 I11 Q)) ∧ ((I11 261 8) = 0 → (vp_in l1 36 ∧ Wi mX12_number [.ref 261, .int ((I11 268 l1.toNatClampNeg) + 1), .int 1440] I11 (fun r13 I12 => (vp_in l1 36 ∧ ∀ I14 : MI, I14 = up2 I12 269 l1.toNatClampNeg r13 → LX12_readStreet_271 l1 l2 l3 t0 I14 Q)))))))))))))) ∧ (¬ (I 261 8) = 0 → (Q I)))) : LX12_readStreet_170 l1 l2 l3 t0 I Q := by
  show WP mX12_readStreet 286 Rf0 170 [some (.ref 261), some (.int l1), some (.int l2), some (.int l3), none] [.int t0] I (qv Q)
  refine w_istore (ls' := [some (.ref 261), some (.int l1), some (.int l2), some (.int l3), some (.int t0)]) dX12_readStreet_170 (by decide) rfl rfl ?_
  refine w_aload_n dX12_readStreet_172 rfl rfl ?_
  refine w_getI dX12_readStreet_173 fl_12_129 okC12 kd_261 (by decide) (by decide) rfl ?_
  refine w_if_eq (t := 180) dX12_readStreet_176 (by decide) (fun h => ?_) (fun h => ?_)
  · replace H := H.1 h
    refine w_aload_n dX12_readStreet_180 rfl rfl ?_
    refine w_getR dX12_readStreet_181 fl_12_20 okC12 kd_261 (by decide) (by decide) rfl rf_261_12 ?_
    refine w_iload_n dX12_readStreet_184 rfl rfl ?_
    refine w_iload_n dX12_readStreet_185 rfl rfl ?_
    refine w_iast dX12_readStreet_186 kd_265 (by decide) H.1 (w_up fun I1 hI => ?_)
    replace H := H.2 I1 hI
    refine w_aload_n dX12_readStreet_187 rfl rfl ?_
    refine w_getR dX12_readStreet_188 fl_12_23 okC12 kd_261 (by decide) (by decide) rfl rf_261_13 ?_
    refine w_iload_n dX12_readStreet_191 rfl rfl ?_
    refine w_iload_n dX12_readStreet_192 rfl rfl ?_
    refine w_iast dX12_readStreet_193 kd_266 (by decide) H.1 (w_up fun I2 hI => ?_)
    replace H := H.2 I2 hI
    refine w_aload_n dX12_readStreet_194 rfl rfl ?_
    refine w_getR dX12_readStreet_195 fl_12_26 okC12 kd_261 (by decide) (by decide) rfl rf_261_14 ?_
    refine w_iload_n dX12_readStreet_198 rfl rfl ?_
    refine w_iload dX12_readStreet_199 rfl ?_
    refine w_iast dX12_readStreet_201 kd_267 (by decide) H.1 (w_up fun I3 hI => ?_)
    replace H := H.2 I3 hI
    refine w_aload_n dX12_readStreet_202 rfl rfl ?_
    refine w_getR dX12_readStreet_203 fl_12_29 okC12 kd_261 (by decide) (by decide) rfl rf_261_15 ?_
    refine w_iload_n dX12_readStreet_206 rfl rfl ?_
    refine w_iconst (v := (-1)) dX12_readStreet_207 (by decide) ?_
    refine w_iast dX12_readStreet_208 kd_268 (by decide) H.1 (w_up fun I4 hI => ?_)
    replace H := H.2 I4 hI
    refine w_aload_n dX12_readStreet_209 rfl rfl ?_
    refine w_getR dX12_readStreet_210 fl_12_32 okC12 kd_261 (by decide) (by decide) rfl rf_261_16 ?_
    refine w_iload_n dX12_readStreet_213 rfl rfl ?_
    refine w_iconst (v := (-1)) dX12_readStreet_214 (by decide) ?_
    refine w_iast dX12_readStreet_215 kd_269 (by decide) H.1 (w_up fun I5 hI => ?_)
    replace H := H.2 I5 hI
    refine w_aload_n dX12_readStreet_216 rfl rfl ?_
    refine w_ldcS (j := 6) (tx := "gate") dX12_readStreet_217 (by decide +kernel) ?_
    refine w_callV (st := []) (As := [.retAddr (2 * 6 + 1)]) dX12_readStreet_219 ml_12_161 okX12_is kd_261 (by decide) rfl rfl rfl (Nat.le_of_ble_eq_true rfl) (by decide) (Nat.le_of_ble_eq_true rfl) (wc_i H (fun r7 I6 H => ?_))
    refine w_if_eq (t := 271) dX12_readStreet_222 (by decide) (fun h => ?_) (fun h => ?_)
    · replace H := H.1 h
      skip
      exact H
    · replace H := H.2 h
      refine w_aload_n dX12_readStreet_225 rfl rfl ?_
      refine w_callV (st := []) (As := []) dX12_readStreet_226 ml_12_148 okX12_nextToken kd_261 (by decide) rfl rfl rfl (Nat.le_of_ble_eq_true rfl) (by decide) (Nat.le_of_ble_eq_true rfl) (wc_v H (fun I8 H => ?_))
      refine w_aload_n dX12_readStreet_229 rfl rfl ?_
      refine w_getR dX12_readStreet_230 fl_12_29 okC12 kd_261 (by decide) (by decide) rfl rf_261_15 ?_
      refine w_iload_n dX12_readStreet_233 rfl rfl ?_
      refine w_aload_n dX12_readStreet_234 rfl rfl ?_
      refine w_iconst (v := 0) dX12_readStreet_235 (by decide) ?_
      refine w_sipush (v := 1439) dX12_readStreet_236 (by decide) ?_
      refine w_callV (st := [.int l1, .ref 268]) (As := [.int 0, .int 1439]) dX12_readStreet_239 ml_12_151 okX12_number kd_261 (by decide) rfl rfl rfl (Nat.le_of_ble_eq_true rfl) (by decide) (Nat.le_of_ble_eq_true rfl) (wc_i H (fun r10 I9 H => ?_))
      refine w_iast dX12_readStreet_242 kd_268 (by decide) H.1 (w_up fun I11 hI => ?_)
      replace H := H.2 I11 hI
      refine w_aload_n dX12_readStreet_243 rfl rfl ?_
      refine w_getI dX12_readStreet_244 fl_12_129 okC12 kd_261 (by decide) (by decide) rfl ?_
      refine w_if_ne (t := 271) dX12_readStreet_247 (by decide) (fun h => ?_) (fun h => ?_)
      · replace H := H.1 h
        skip
        exact H
      · replace H := H.2 h
        refine w_aload_n dX12_readStreet_250 rfl rfl ?_
        refine w_getR dX12_readStreet_251 fl_12_32 okC12 kd_261 (by decide) (by decide) rfl rf_261_16 ?_
        refine w_iload_n dX12_readStreet_254 rfl rfl ?_
        refine w_aload_n dX12_readStreet_255 rfl rfl ?_
        refine w_aload_n dX12_readStreet_256 rfl rfl ?_
        refine w_getR dX12_readStreet_257 fl_12_29 okC12 kd_261 (by decide) (by decide) rfl rf_261_15 ?_
        refine w_iload_n dX12_readStreet_260 rfl rfl ?_
        refine w_iald dX12_readStreet_261 kd_268 (by decide) H.1 ?_
        replace H := H.2
        refine w_iconst (v := 1) dX12_readStreet_262 (by decide) ?_
        refine w_iadd dX12_readStreet_263 ?_
        refine w_sipush (v := 1440) dX12_readStreet_264 (by decide) ?_
        refine w_callV (st := [.int l1, .ref 269]) (As := [.int ((I11 268 l1.toNatClampNeg) + 1), .int 1440]) dX12_readStreet_267 ml_12_151 okX12_number kd_261 (by decide) rfl rfl rfl (Nat.le_of_ble_eq_true rfl) (by decide) (Nat.le_of_ble_eq_true rfl) (wc_i H (fun r13 I12 H => ?_))
        refine w_iast dX12_readStreet_270 kd_269 (by decide) H.1 (w_up fun I14 hI => ?_)
        replace H := H.2 I14 hI
        skip
        exact H
  · replace H := H.2 h
    exact w_vret dX12_readStreet_179 rfl ⟨rfl, H⟩
set_option maxRecDepth 20000 in
theorem rX12_readStreet_271 {l1 l2 l3 l4 : Int32} {I : MI} {Q : MI → Prop} (H : (vp_in 5 7 ∧ vp_in 5 7 ∧ ∀ I1 : MI, I1 = up2 I 264 (5 : Int32).toNatClampNeg ((I 264 (5 : Int32).toNatClampNeg) + 1) → Q I1)) : LX12_readStreet_271 l1 l2 l3 l4 I Q := by
  show WP mX12_readStreet 286 Rf0 271 [some (.ref 261), some (.int l1), some (.int l2), some (.int l3), some (.int l4)] [] I (qv Q)
  refine w_aload_n dX12_readStreet_271 rfl rfl ?_
  refine w_getR dX12_readStreet_272 fl_12_17 okC12 kd_261 (by decide) (by decide) rfl rf_261_11 ?_
  refine w_iconst (v := 5) dX12_readStreet_275 (by decide) ?_
  refine w_dup2 dX12_readStreet_276 rfl rfl ?_
  refine w_iald dX12_readStreet_277 kd_264 (by decide) H.1 ?_
  replace H := H.2
  refine w_iconst (v := 1) dX12_readStreet_278 (by decide) ?_
  refine w_iadd dX12_readStreet_279 ?_
  refine w_iast dX12_readStreet_280 kd_264 (by decide) H.1 (w_up fun I1 hI => ?_)
  replace H := H.2 I1 hI
  exact w_vret dX12_readStreet_281 rfl ⟨rfl, H⟩
set_option maxRecDepth 20000 in
theorem rX12_readStreet {I : MI} {Q : MI → Prop} (H : (vp_in 5 7 ∧ (18 ≤ (I 264 (5 : Int32).toNatClampNeg) → (LX12_readStreet_17 0 I Q)) ∧ (¬ 18 ≤ (I 264 (5 : Int32).toNatClampNeg) → (LX12_readStreet_17 1 I Q)))) : Wv mX12_readStreet [.ref 261] I Q := by
  show WP mX12_readStreet 286 Rf0 0 [some (.ref 261), none, none, none, none] [] I (qv Q)
  refine w_aload_n dX12_readStreet_0 rfl rfl ?_
  refine w_aload_n dX12_readStreet_1 rfl rfl ?_
  refine w_getR dX12_readStreet_2 fl_12_17 okC12 kd_261 (by decide) (by decide) rfl rf_261_11 ?_
  refine w_iconst (v := 5) dX12_readStreet_5 (by decide) ?_
  refine w_iald dX12_readStreet_6 kd_264 (by decide) H.1 ?_
  replace H := H.2
  refine w_bipush (v := 18) dX12_readStreet_7 (by decide) ?_
  refine w_icmp_ge (t := 16) dX12_readStreet_9 (by decide) (fun h => ?_) (fun h => ?_)
  · replace H := H.1 h
    refine w_iconst (v := 0) dX12_readStreet_16 (by decide) ?_
    skip
    exact H
  · replace H := H.2 h
    refine w_iconst (v := 1) dX12_readStreet_12 (by decide) ?_
    refine w_goto (t := 17) dX12_readStreet_13 (by decide) ?_
    skip
    exact H
theorem dX12_readHouse_0 : decode cX12_readHouse 0 = .ok (.aload_n 0, 1) := by decide +kernel
theorem dX12_readHouse_1 : decode cX12_readHouse 1 = .ok (.aload_n 0, 1) := by decide +kernel
theorem dX12_readHouse_2 : decode cX12_readHouse 2 = .ok (.getfield 17, 3) := by decide +kernel
theorem dX12_readHouse_5 : decode cX12_readHouse 5 = .ok (.bipush 6, 2) := by decide +kernel
theorem dX12_readHouse_7 : decode cX12_readHouse 7 = .ok (.iaload, 1) := by decide +kernel
theorem dX12_readHouse_8 : decode cX12_readHouse 8 = .ok (.bipush 12, 2) := by decide +kernel
theorem dX12_readHouse_10 : decode cX12_readHouse 10 = .ok (.if_icmp .ge 7, 3) := by decide +kernel
theorem dX12_readHouse_13 : decode cX12_readHouse 13 = .ok (.iconst 1, 1) := by decide +kernel
theorem dX12_readHouse_14 : decode cX12_readHouse 14 = .ok (.goto 4, 3) := by decide +kernel
theorem dX12_readHouse_17 : decode cX12_readHouse 17 = .ok (.iconst 0, 1) := by decide +kernel
theorem dX12_readHouse_18 : decode cX12_readHouse 18 = .ok (.iconst 4, 1) := by decide +kernel
theorem dX12_readHouse_19 : decode cX12_readHouse 19 = .ok (.invokevirtual 144, 3) := by decide +kernel
theorem dX12_readHouse_22 : decode cX12_readHouse 22 = .ok (.ifCond .ne 4, 3) := by decide +kernel
theorem dX12_readHouse_25 : decode cX12_readHouse 25 = .ok (.return_, 1) := by decide +kernel
theorem dX12_readHouse_26 : decode cX12_readHouse 26 = .ok (.bipush 12, 2) := by decide +kernel
theorem dX12_readHouse_28 : decode cX12_readHouse 28 = .ok (.aload_n 0, 1) := by decide +kernel
theorem dX12_readHouse_29 : decode cX12_readHouse 29 = .ok (.getfield 17, 3) := by decide +kernel
theorem dX12_readHouse_32 : decode cX12_readHouse 32 = .ok (.bipush 6, 2) := by decide +kernel
theorem dX12_readHouse_34 : decode cX12_readHouse 34 = .ok (.iaload, 1) := by decide +kernel
theorem dX12_readHouse_35 : decode cX12_readHouse 35 = .ok (.iadd, 1) := by decide +kernel
theorem dX12_readHouse_36 : decode cX12_readHouse 36 = .ok (.istore_n 1, 1) := by decide +kernel
theorem dX12_readHouse_37 : decode cX12_readHouse 37 = .ok (.aload_n 0, 1) := by decide +kernel
theorem dX12_readHouse_38 : decode cX12_readHouse 38 = .ok (.invokevirtual 148, 3) := by decide +kernel
theorem dX12_readHouse_41 : decode cX12_readHouse 41 = .ok (.aload_n 0, 1) := by decide +kernel
theorem dX12_readHouse_42 : decode cX12_readHouse 42 = .ok (.getfield 35, 3) := by decide +kernel
theorem dX12_readHouse_45 : decode cX12_readHouse 45 = .ok (.iload_n 1, 1) := by decide +kernel
theorem dX12_readHouse_46 : decode cX12_readHouse 46 = .ok (.aload_n 0, 1) := by decide +kernel
theorem dX12_readHouse_47 : decode cX12_readHouse 47 = .ok (.iconst 1, 1) := by decide +kernel
theorem dX12_readHouse_48 : decode cX12_readHouse 48 = .ok (.aload_n 0, 1) := by decide +kernel
theorem dX12_readHouse_49 : decode cX12_readHouse 49 = .ok (.getfield 17, 3) := by decide +kernel
theorem dX12_readHouse_52 : decode cX12_readHouse 52 = .ok (.iconst 0, 1) := by decide +kernel
theorem dX12_readHouse_53 : decode cX12_readHouse 53 = .ok (.iaload, 1) := by decide +kernel
theorem dX12_readHouse_54 : decode cX12_readHouse 54 = .ok (.iconst 1, 1) := by decide +kernel
theorem dX12_readHouse_55 : decode cX12_readHouse 55 = .ok (.isub, 1) := by decide +kernel
theorem dX12_readHouse_56 : decode cX12_readHouse 56 = .ok (.invokevirtual 151, 3) := by decide +kernel
theorem dX12_readHouse_59 : decode cX12_readHouse 59 = .ok (.iastore, 1) := by decide +kernel
theorem dX12_readHouse_60 : decode cX12_readHouse 60 = .ok (.aload_n 0, 1) := by decide +kernel
theorem dX12_readHouse_61 : decode cX12_readHouse 61 = .ok (.getfield 129, 3) := by decide +kernel
theorem dX12_readHouse_64 : decode cX12_readHouse 64 = .ok (.ifCond .ne 16, 3) := by decide +kernel
theorem dX12_readHouse_67 : decode cX12_readHouse 67 = .ok (.aload_n 0, 1) := by decide +kernel
theorem dX12_readHouse_68 : decode cX12_readHouse 68 = .ok (.getfield 38, 3) := by decide +kernel
theorem dX12_readHouse_71 : decode cX12_readHouse 71 = .ok (.iload_n 1, 1) := by decide +kernel
theorem dX12_readHouse_72 : decode cX12_readHouse 72 = .ok (.aload_n 0, 1) := by decide +kernel
theorem dX12_readHouse_73 : decode cX12_readHouse 73 = .ok (.iconst 0, 1) := by decide +kernel
theorem dX12_readHouse_74 : decode cX12_readHouse 74 = .ok (.bipush 50, 2) := by decide +kernel
theorem dX12_readHouse_76 : decode cX12_readHouse 76 = .ok (.invokevirtual 151, 3) := by decide +kernel
theorem dX12_readHouse_79 : decode cX12_readHouse 79 = .ok (.iastore, 1) := by decide +kernel
theorem dX12_readHouse_80 : decode cX12_readHouse 80 = .ok (.aload_n 0, 1) := by decide +kernel
theorem dX12_readHouse_81 : decode cX12_readHouse 81 = .ok (.getfield 129, 3) := by decide +kernel
theorem dX12_readHouse_84 : decode cX12_readHouse 84 = .ok (.ifCond .ne 16, 3) := by decide +kernel
theorem dX12_readHouse_87 : decode cX12_readHouse 87 = .ok (.aload_n 0, 1) := by decide +kernel
theorem dX12_readHouse_88 : decode cX12_readHouse 88 = .ok (.getfield 41, 3) := by decide +kernel
theorem dX12_readHouse_91 : decode cX12_readHouse 91 = .ok (.iload_n 1, 1) := by decide +kernel
theorem dX12_readHouse_92 : decode cX12_readHouse 92 = .ok (.aload_n 0, 1) := by decide +kernel
theorem dX12_readHouse_93 : decode cX12_readHouse 93 = .ok (.iconst 0, 1) := by decide +kernel
theorem dX12_readHouse_94 : decode cX12_readHouse 94 = .ok (.bipush 9, 2) := by decide +kernel
theorem dX12_readHouse_96 : decode cX12_readHouse 96 = .ok (.invokevirtual 151, 3) := by decide +kernel
theorem dX12_readHouse_99 : decode cX12_readHouse 99 = .ok (.iastore, 1) := by decide +kernel
theorem dX12_readHouse_100 : decode cX12_readHouse 100 = .ok (.iconst 0, 1) := by decide +kernel
theorem dX12_readHouse_101 : decode cX12_readHouse 101 = .ok (.istore_n 2, 1) := by decide +kernel
theorem dX12_readHouse_102 : decode cX12_readHouse 102 = .ok (.iload_n 2, 1) := by decide +kernel
theorem dX12_readHouse_103 : decode cX12_readHouse 103 = .ok (.bipush 7, 2) := by decide +kernel
theorem dX12_readHouse_105 : decode cX12_readHouse 105 = .ok (.if_icmp .ge 34, 3) := by decide +kernel
theorem dX12_readHouse_108 : decode cX12_readHouse 108 = .ok (.aload_n 0, 1) := by decide +kernel
theorem dX12_readHouse_109 : decode cX12_readHouse 109 = .ok (.getfield 129, 3) := by decide +kernel
theorem dX12_readHouse_112 : decode cX12_readHouse 112 = .ok (.ifCond .ne 27, 3) := by decide +kernel
theorem dX12_readHouse_115 : decode cX12_readHouse 115 = .ok (.aload_n 0, 1) := by decide +kernel
theorem dX12_readHouse_116 : decode cX12_readHouse 116 = .ok (.getfield 44, 3) := by decide +kernel
theorem dX12_readHouse_119 : decode cX12_readHouse 119 = .ok (.bipush 7, 2) := by decide +kernel
theorem dX12_readHouse_121 : decode cX12_readHouse 121 = .ok (.iload_n 1, 1) := by decide +kernel
theorem dX12_readHouse_122 : decode cX12_readHouse 122 = .ok (.imul, 1) := by decide +kernel
theorem dX12_readHouse_123 : decode cX12_readHouse 123 = .ok (.iload_n 2, 1) := by decide +kernel
theorem dX12_readHouse_124 : decode cX12_readHouse 124 = .ok (.iadd, 1) := by decide +kernel
theorem dX12_readHouse_125 : decode cX12_readHouse 125 = .ok (.aload_n 0, 1) := by decide +kernel
theorem dX12_readHouse_126 : decode cX12_readHouse 126 = .ok (.iconst 0, 1) := by decide +kernel
theorem dX12_readHouse_127 : decode cX12_readHouse 127 = .ok (.bipush 9, 2) := by decide +kernel
theorem dX12_readHouse_129 : decode cX12_readHouse 129 = .ok (.invokevirtual 151, 3) := by decide +kernel
theorem dX12_readHouse_132 : decode cX12_readHouse 132 = .ok (.iastore, 1) := by decide +kernel
theorem dX12_readHouse_133 : decode cX12_readHouse 133 = .ok (.iinc 2 1, 3) := by decide +kernel
theorem dX12_readHouse_136 : decode cX12_readHouse 136 = .ok (.goto (-34), 3) := by decide +kernel
theorem dX12_readHouse_139 : decode cX12_readHouse 139 = .ok (.aload_n 0, 1) := by decide +kernel
theorem dX12_readHouse_140 : decode cX12_readHouse 140 = .ok (.getfield 17, 3) := by decide +kernel
theorem dX12_readHouse_143 : decode cX12_readHouse 143 = .ok (.bipush 6, 2) := by decide +kernel
theorem dX12_readHouse_145 : decode cX12_readHouse 145 = .ok (.dup2, 1) := by decide +kernel
theorem dX12_readHouse_146 : decode cX12_readHouse 146 = .ok (.iaload, 1) := by decide +kernel
theorem dX12_readHouse_147 : decode cX12_readHouse 147 = .ok (.iconst 1, 1) := by decide +kernel
theorem dX12_readHouse_148 : decode cX12_readHouse 148 = .ok (.iadd, 1) := by decide +kernel
theorem dX12_readHouse_149 : decode cX12_readHouse 149 = .ok (.iastore, 1) := by decide +kernel
theorem dX12_readHouse_150 : decode cX12_readHouse 150 = .ok (.return_, 1) := by decide +kernel
abbrev LX12_readHouse_18 (t1 : Int32) (I : MI) (Q : MI → Prop) : Prop := WP mX12_readHouse 286 Rf0 18 [some (.ref 261), none, none] [.int t1, .ref 261] I (qv Q)
abbrev LX12_readHouse_80 (l1 : Int32) (I : MI) (Q : MI → Prop) : Prop := WP mX12_readHouse 286 Rf0 80 [some (.ref 261), some (.int l1), none] [] I (qv Q)
abbrev LX12_readHouse_100 (l1 : Int32) (I : MI) (Q : MI → Prop) : Prop := WP mX12_readHouse 286 Rf0 100 [some (.ref 261), some (.int l1), none] [] I (qv Q)
abbrev LX12_readHouse_102 (l1 l2 : Int32) (I : MI) (Q : MI → Prop) : Prop := WP mX12_readHouse 286 Rf0 102 [some (.ref 261), some (.int l1), some (.int l2)] [] I (qv Q)
abbrev LX12_readHouse_139 (l1 l2 : Int32) (I : MI) (Q : MI → Prop) : Prop := WP mX12_readHouse 286 Rf0 139 [some (.ref 261), some (.int l1), some (.int l2)] [] I (qv Q)
set_option maxRecDepth 20000 in
theorem rX12_readHouse_18 {t1 : Int32} {I : MI} {Q : MI → Prop} (H : (Wi mX12_must [.ref 261, .int t1, .int 4] I (fun r2 I1 => ((¬ r2 = 0 → (vp_in 6 7 ∧ Wv mX12_nextToken [.ref 261] I1 (fun I3 => (vp_in 0 7 ∧ Wi mX12_number [.ref 261, .int 1, .int ((I3 264 (0 : Int32).toNatClampNeg) - 1)] I3 (fun r5 I4 => (vp_in (12 + (I1 264 (6 : Int32).toNatClampNeg)) 24 ∧ ∀ I6 : MI, I6 = up2 I4 270 (12 + (I1 264 (6 : Int32).toNatClampNeg)).toNatClampNeg r5 → (¬ (I6 261 8) = 0 → (LX12_readHouse_80 (12 + (I1 264 (6 : Int32).toNatClampNeg)) I6 Q)) ∧ ((I6 261 8) = 0 → (Wi mX12_number [.ref 261, .int 0, .int 50] I6 (fun r8 I7 => (vp_in (12 + (I1 264 (6 : Int32).toNatClampNeg)) 24 ∧ ∀ I9 : MI, I9 = up2 I7 271 (12 + (I1 264 (6 : Int32).toNatClampNeg)).toNatClampNeg r8 → LX12_readHouse_80 (12 + (I1 264 (6 : Int32).toNatClampNeg)) I9 Q)))))))))) ∧ (r2 = 0 → (Q I1)))))) : LX12_readHouse_18 t1 I Q := by
  show WP mX12_readHouse 286 Rf0 18 [some (.ref 261), none, none] [.int t1, .ref 261] I (qv Q)
  refine w_iconst (v := 4) dX12_readHouse_18 (by decide) ?_
  refine w_callV (st := []) (As := [.int t1, .int 4]) dX12_readHouse_19 ml_12_144 okX12_must kd_261 (by decide) rfl rfl rfl (Nat.le_of_ble_eq_true rfl) (by decide) (Nat.le_of_ble_eq_true rfl) (wc_i H (fun r2 I1 H => ?_))
  refine w_if_ne (t := 26) dX12_readHouse_22 (by decide) (fun h => ?_) (fun h => ?_)
  · replace H := H.1 h
    refine w_bipush (v := 12) dX12_readHouse_26 (by decide) ?_
    refine w_aload_n dX12_readHouse_28 rfl rfl ?_
    refine w_getR dX12_readHouse_29 fl_12_17 okC12 kd_261 (by decide) (by decide) rfl rf_261_11 ?_
    refine w_bipush (v := 6) dX12_readHouse_32 (by decide) ?_
    refine w_iald dX12_readHouse_34 kd_264 (by decide) H.1 ?_
    replace H := H.2
    refine w_iadd dX12_readHouse_35 ?_
    refine w_istore_n (ls' := [some (.ref 261), some (.int (12 + (I1 264 (6 : Int32).toNatClampNeg))), none]) dX12_readHouse_36 rfl (by decide) rfl rfl ?_
    refine w_aload_n dX12_readHouse_37 rfl rfl ?_
    refine w_callV (st := []) (As := []) dX12_readHouse_38 ml_12_148 okX12_nextToken kd_261 (by decide) rfl rfl rfl (Nat.le_of_ble_eq_true rfl) (by decide) (Nat.le_of_ble_eq_true rfl) (wc_v H (fun I3 H => ?_))
    refine w_aload_n dX12_readHouse_41 rfl rfl ?_
    refine w_getR dX12_readHouse_42 fl_12_35 okC12 kd_261 (by decide) (by decide) rfl rf_261_17 ?_
    refine w_iload_n dX12_readHouse_45 rfl rfl ?_
    refine w_aload_n dX12_readHouse_46 rfl rfl ?_
    refine w_iconst (v := 1) dX12_readHouse_47 (by decide) ?_
    refine w_aload_n dX12_readHouse_48 rfl rfl ?_
    refine w_getR dX12_readHouse_49 fl_12_17 okC12 kd_261 (by decide) (by decide) rfl rf_261_11 ?_
    refine w_iconst (v := 0) dX12_readHouse_52 (by decide) ?_
    refine w_iald dX12_readHouse_53 kd_264 (by decide) H.1 ?_
    replace H := H.2
    refine w_iconst (v := 1) dX12_readHouse_54 (by decide) ?_
    refine w_isub dX12_readHouse_55 ?_
    refine w_callV (st := [.int (12 + (I1 264 (6 : Int32).toNatClampNeg)), .ref 270]) (As := [.int 1, .int ((I3 264 (0 : Int32).toNatClampNeg) - 1)]) dX12_readHouse_56 ml_12_151 okX12_number kd_261 (by decide) rfl rfl rfl (Nat.le_of_ble_eq_true rfl) (by decide) (Nat.le_of_ble_eq_true rfl) (wc_i H (fun r5 I4 H => ?_))
    refine w_iast dX12_readHouse_59 kd_270 (by decide) H.1 (w_up fun I6 hI => ?_)
    replace H := H.2 I6 hI
    refine w_aload_n dX12_readHouse_60 rfl rfl ?_
    refine w_getI dX12_readHouse_61 fl_12_129 okC12 kd_261 (by decide) (by decide) rfl ?_
    refine w_if_ne (t := 80) dX12_readHouse_64 (by decide) (fun h => ?_) (fun h => ?_)
    · replace H := H.1 h
      skip
      exact H
    · replace H := H.2 h
      refine w_aload_n dX12_readHouse_67 rfl rfl ?_
      refine w_getR dX12_readHouse_68 fl_12_38 okC12 kd_261 (by decide) (by decide) rfl rf_261_18 ?_
      refine w_iload_n dX12_readHouse_71 rfl rfl ?_
      refine w_aload_n dX12_readHouse_72 rfl rfl ?_
      refine w_iconst (v := 0) dX12_readHouse_73 (by decide) ?_
      refine w_bipush (v := 50) dX12_readHouse_74 (by decide) ?_
      refine w_callV (st := [.int (12 + (I1 264 (6 : Int32).toNatClampNeg)), .ref 271]) (As := [.int 0, .int 50]) dX12_readHouse_76 ml_12_151 okX12_number kd_261 (by decide) rfl rfl rfl (Nat.le_of_ble_eq_true rfl) (by decide) (Nat.le_of_ble_eq_true rfl) (wc_i H (fun r8 I7 H => ?_))
      refine w_iast dX12_readHouse_79 kd_271 (by decide) H.1 (w_up fun I9 hI => ?_)
      replace H := H.2 I9 hI
      skip
      exact H
  · replace H := H.2 h
    exact w_vret dX12_readHouse_25 rfl ⟨rfl, H⟩
set_option maxRecDepth 20000 in
theorem rX12_readHouse_80 {l1 : Int32} {I : MI} {Q : MI → Prop} (H : ((¬ (I 261 8) = 0 → (LX12_readHouse_100 l1 I Q)) ∧ ((I 261 8) = 0 → (Wi mX12_number [.ref 261, .int 0, .int 9] I (fun r2 I1 => (vp_in l1 24 ∧ ∀ I3 : MI, I3 = up2 I1 272 l1.toNatClampNeg r2 → LX12_readHouse_100 l1 I3 Q)))))) : LX12_readHouse_80 l1 I Q := by
  show WP mX12_readHouse 286 Rf0 80 [some (.ref 261), some (.int l1), none] [] I (qv Q)
  refine w_aload_n dX12_readHouse_80 rfl rfl ?_
  refine w_getI dX12_readHouse_81 fl_12_129 okC12 kd_261 (by decide) (by decide) rfl ?_
  refine w_if_ne (t := 100) dX12_readHouse_84 (by decide) (fun h => ?_) (fun h => ?_)
  · replace H := H.1 h
    skip
    exact H
  · replace H := H.2 h
    refine w_aload_n dX12_readHouse_87 rfl rfl ?_
    refine w_getR dX12_readHouse_88 fl_12_41 okC12 kd_261 (by decide) (by decide) rfl rf_261_19 ?_
    refine w_iload_n dX12_readHouse_91 rfl rfl ?_
    refine w_aload_n dX12_readHouse_92 rfl rfl ?_
    refine w_iconst (v := 0) dX12_readHouse_93 (by decide) ?_
    refine w_bipush (v := 9) dX12_readHouse_94 (by decide) ?_
    refine w_callV (st := [.int l1, .ref 272]) (As := [.int 0, .int 9]) dX12_readHouse_96 ml_12_151 okX12_number kd_261 (by decide) rfl rfl rfl (Nat.le_of_ble_eq_true rfl) (by decide) (Nat.le_of_ble_eq_true rfl) (wc_i H (fun r2 I1 H => ?_))
    refine w_iast dX12_readHouse_99 kd_272 (by decide) H.1 (w_up fun I3 hI => ?_)
    replace H := H.2 I3 hI
    skip
    exact H
set_option maxRecDepth 20000 in
theorem rX12_readHouse_100 {l1 : Int32} {I : MI} {Q : MI → Prop} (H : (LX12_readHouse_102 l1 0 I Q)) : LX12_readHouse_100 l1 I Q := by
  show WP mX12_readHouse 286 Rf0 100 [some (.ref 261), some (.int l1), none] [] I (qv Q)
  refine w_iconst (v := 0) dX12_readHouse_100 (by decide) ?_
  refine w_istore_n (ls' := [some (.ref 261), some (.int l1), some (.int 0)]) dX12_readHouse_101 rfl (by decide) rfl rfl ?_
  skip
  exact H
set_option maxRecDepth 20000 in
theorem rX12_readHouse_102 {l1 l2 : Int32} {I : MI} {Q : MI → Prop} (H : ((7 ≤ l2 → (LX12_readHouse_139 l1 l2 I Q)) ∧ (¬ 7 ≤ l2 → ((¬ (I 261 8) = 0 → (LX12_readHouse_139 l1 l2 I Q)) ∧ ((I 261 8) = 0 → (Wi mX12_number [.ref 261, .int 0, .int 9] I (fun r2 I1 => (vp_in ((7 * l1) + l2) 168 ∧ ∀ I3 : MI, I3 = up2 I1 273 ((7 * l1) + l2).toNatClampNeg r2 → LX12_readHouse_102 l1 (l2 + 1) I3 Q)))))))) : LX12_readHouse_102 l1 l2 I Q := by
  show WP mX12_readHouse 286 Rf0 102 [some (.ref 261), some (.int l1), some (.int l2)] [] I (qv Q)
  refine w_iload_n dX12_readHouse_102 rfl rfl ?_
  refine w_bipush (v := 7) dX12_readHouse_103 (by decide) ?_
  refine w_icmp_ge (t := 139) dX12_readHouse_105 (by decide) (fun h => ?_) (fun h => ?_)
  · replace H := H.1 h
    skip
    exact H
  · replace H := H.2 h
    refine w_aload_n dX12_readHouse_108 rfl rfl ?_
    refine w_getI dX12_readHouse_109 fl_12_129 okC12 kd_261 (by decide) (by decide) rfl ?_
    refine w_if_ne (t := 139) dX12_readHouse_112 (by decide) (fun h => ?_) (fun h => ?_)
    · replace H := H.1 h
      skip
      exact H
    · replace H := H.2 h
      refine w_aload_n dX12_readHouse_115 rfl rfl ?_
      refine w_getR dX12_readHouse_116 fl_12_44 okC12 kd_261 (by decide) (by decide) rfl rf_261_20 ?_
      refine w_bipush (v := 7) dX12_readHouse_119 (by decide) ?_
      refine w_iload_n dX12_readHouse_121 rfl rfl ?_
      refine w_imul dX12_readHouse_122 ?_
      refine w_iload_n dX12_readHouse_123 rfl rfl ?_
      refine w_iadd dX12_readHouse_124 ?_
      refine w_aload_n dX12_readHouse_125 rfl rfl ?_
      refine w_iconst (v := 0) dX12_readHouse_126 (by decide) ?_
      refine w_bipush (v := 9) dX12_readHouse_127 (by decide) ?_
      refine w_callV (st := [.int ((7 * l1) + l2), .ref 273]) (As := [.int 0, .int 9]) dX12_readHouse_129 ml_12_151 okX12_number kd_261 (by decide) rfl rfl rfl (Nat.le_of_ble_eq_true rfl) (by decide) (Nat.le_of_ble_eq_true rfl) (wc_i H (fun r2 I1 H => ?_))
      refine w_iast dX12_readHouse_132 kd_273 (by decide) H.1 (w_up fun I3 hI => ?_)
      replace H := H.2 I3 hI
      refine w_iinc (v := l2 + 1) (ls' := [some (.ref 261), some (.int l1), some (.int (l2 + 1))]) dX12_readHouse_133 rfl rfl (by decide) rfl rfl ?_
      refine w_goto (t := 102) dX12_readHouse_136 (by decide) ?_
      skip
      exact H
set_option maxRecDepth 20000 in
theorem rX12_readHouse_139 {l1 l2 : Int32} {I : MI} {Q : MI → Prop} (H : (vp_in 6 7 ∧ vp_in 6 7 ∧ ∀ I1 : MI, I1 = up2 I 264 (6 : Int32).toNatClampNeg ((I 264 (6 : Int32).toNatClampNeg) + 1) → Q I1)) : LX12_readHouse_139 l1 l2 I Q := by
  show WP mX12_readHouse 286 Rf0 139 [some (.ref 261), some (.int l1), some (.int l2)] [] I (qv Q)
  refine w_aload_n dX12_readHouse_139 rfl rfl ?_
  refine w_getR dX12_readHouse_140 fl_12_17 okC12 kd_261 (by decide) (by decide) rfl rf_261_11 ?_
  refine w_bipush (v := 6) dX12_readHouse_143 (by decide) ?_
  refine w_dup2 dX12_readHouse_145 rfl rfl ?_
  refine w_iald dX12_readHouse_146 kd_264 (by decide) H.1 ?_
  replace H := H.2
  refine w_iconst (v := 1) dX12_readHouse_147 (by decide) ?_
  refine w_iadd dX12_readHouse_148 ?_
  refine w_iast dX12_readHouse_149 kd_264 (by decide) H.1 (w_up fun I1 hI => ?_)
  replace H := H.2 I1 hI
  exact w_vret dX12_readHouse_150 rfl ⟨rfl, H⟩
set_option maxRecDepth 20000 in
theorem rX12_readHouse {I : MI} {Q : MI → Prop} (H : (vp_in 6 7 ∧ (12 ≤ (I 264 (6 : Int32).toNatClampNeg) → (LX12_readHouse_18 0 I Q)) ∧ (¬ 12 ≤ (I 264 (6 : Int32).toNatClampNeg) → (LX12_readHouse_18 1 I Q)))) : Wv mX12_readHouse [.ref 261] I Q := by
  show WP mX12_readHouse 286 Rf0 0 [some (.ref 261), none, none] [] I (qv Q)
  refine w_aload_n dX12_readHouse_0 rfl rfl ?_
  refine w_aload_n dX12_readHouse_1 rfl rfl ?_
  refine w_getR dX12_readHouse_2 fl_12_17 okC12 kd_261 (by decide) (by decide) rfl rf_261_11 ?_
  refine w_bipush (v := 6) dX12_readHouse_5 (by decide) ?_
  refine w_iald dX12_readHouse_7 kd_264 (by decide) H.1 ?_
  replace H := H.2
  refine w_bipush (v := 12) dX12_readHouse_8 (by decide) ?_
  refine w_icmp_ge (t := 17) dX12_readHouse_10 (by decide) (fun h => ?_) (fun h => ?_)
  · replace H := H.1 h
    refine w_iconst (v := 0) dX12_readHouse_17 (by decide) ?_
    skip
    exact H
  · replace H := H.2 h
    refine w_iconst (v := 1) dX12_readHouse_13 (by decide) ?_
    refine w_goto (t := 18) dX12_readHouse_14 (by decide) ?_
    skip
    exact H
theorem dX12_once_0 : decode cX12_once 0 = .ok (.aload_n 0, 1) := by decide +kernel
theorem dX12_once_1 : decode cX12_once 1 = .ok (.aload_n 0, 1) := by decide +kernel
theorem dX12_once_2 : decode cX12_once 2 = .ok (.getfield 165, 3) := by decide +kernel
theorem dX12_once_5 : decode cX12_once 5 = .ok (.iload_n 1, 1) := by decide +kernel
theorem dX12_once_6 : decode cX12_once 6 = .ok (.ishr, 1) := by decide +kernel
theorem dX12_once_7 : decode cX12_once 7 = .ok (.iconst 1, 1) := by decide +kernel
theorem dX12_once_8 : decode cX12_once 8 = .ok (.iand, 1) := by decide +kernel
theorem dX12_once_9 : decode cX12_once 9 = .ok (.ifCond .ne 7, 3) := by decide +kernel
theorem dX12_once_12 : decode cX12_once 12 = .ok (.iconst 1, 1) := by decide +kernel
theorem dX12_once_13 : decode cX12_once 13 = .ok (.goto 4, 3) := by decide +kernel
theorem dX12_once_16 : decode cX12_once 16 = .ok (.iconst 0, 1) := by decide +kernel
theorem dX12_once_17 : decode cX12_once 17 = .ok (.iconst 3, 1) := by decide +kernel
theorem dX12_once_18 : decode cX12_once 18 = .ok (.invokevirtual 144, 3) := by decide +kernel
theorem dX12_once_21 : decode cX12_once 21 = .ok (.pop, 1) := by decide +kernel
theorem dX12_once_22 : decode cX12_once 22 = .ok (.aload_n 0, 1) := by decide +kernel
theorem dX12_once_23 : decode cX12_once 23 = .ok (.dup, 1) := by decide +kernel
theorem dX12_once_24 : decode cX12_once 24 = .ok (.getfield 165, 3) := by decide +kernel
theorem dX12_once_27 : decode cX12_once 27 = .ok (.iconst 1, 1) := by decide +kernel
theorem dX12_once_28 : decode cX12_once 28 = .ok (.iload_n 1, 1) := by decide +kernel
theorem dX12_once_29 : decode cX12_once 29 = .ok (.ishl, 1) := by decide +kernel
theorem dX12_once_30 : decode cX12_once 30 = .ok (.ior, 1) := by decide +kernel
theorem dX12_once_31 : decode cX12_once 31 = .ok (.putfield 165, 3) := by decide +kernel
theorem dX12_once_34 : decode cX12_once 34 = .ok (.aload_n 0, 1) := by decide +kernel
theorem dX12_once_35 : decode cX12_once 35 = .ok (.getfield 129, 3) := by decide +kernel
theorem dX12_once_38 : decode cX12_once 38 = .ok (.ifCond .ne 7, 3) := by decide +kernel
theorem dX12_once_41 : decode cX12_once 41 = .ok (.aload_n 0, 1) := by decide +kernel
theorem dX12_once_42 : decode cX12_once 42 = .ok (.invokevirtual 148, 3) := by decide +kernel
theorem dX12_once_45 : decode cX12_once 45 = .ok (.return_, 1) := by decide +kernel
abbrev LX12_once_17 (l1 t1 : Int32) (I : MI) (Q : MI → Prop) : Prop := WP mX12_once 286 Rf0 17 [some (.ref 261), some (.int l1)] [.int t1, .ref 261] I (qv Q)
set_option maxRecDepth 20000 in
theorem rX12_once_17 {l1 t1 : Int32} {I : MI} {Q : MI → Prop} (H : (Wi mX12_must [.ref 261, .int t1, .int 3] I (fun r2 I1 => (∀ I3 : MI, I3 = up2 I1 261 21 ((I1 261 21) ||| ((1 : Int32) <<< (l1 &&& 31))) → (¬ (I3 261 8) = 0 → (Q I3)) ∧ ((I3 261 8) = 0 → (Wv mX12_nextToken [.ref 261] I3 (fun I4 => (Q I4)))))))) : LX12_once_17 l1 t1 I Q := by
  show WP mX12_once 286 Rf0 17 [some (.ref 261), some (.int l1)] [.int t1, .ref 261] I (qv Q)
  refine w_iconst (v := 3) dX12_once_17 (by decide) ?_
  refine w_callV (st := []) (As := [.int t1, .int 3]) dX12_once_18 ml_12_144 okX12_must kd_261 (by decide) rfl rfl rfl (Nat.le_of_ble_eq_true rfl) (by decide) (Nat.le_of_ble_eq_true rfl) (wc_i H (fun r2 I1 H => ?_))
  refine w_pop dX12_once_21 rfl ?_
  refine w_aload_n dX12_once_22 rfl rfl ?_
  refine w_dup dX12_once_23 rfl ?_
  refine w_getI dX12_once_24 fl_12_165 okC12 kd_261 (by decide) (by decide) rfl ?_
  refine w_iconst (v := 1) dX12_once_27 (by decide) ?_
  refine w_iload_n dX12_once_28 rfl rfl ?_
  refine w_ishl dX12_once_29 ?_
  refine w_ior dX12_once_30 ?_
  refine w_putI dX12_once_31 fl_12_165 okC12 kd_261 (by decide) (by decide) rfl rfl rfl (w_up fun I3 hI => ?_)
  replace H := H I3 hI
  refine w_aload_n dX12_once_34 rfl rfl ?_
  refine w_getI dX12_once_35 fl_12_129 okC12 kd_261 (by decide) (by decide) rfl ?_
  refine w_if_ne (t := 45) dX12_once_38 (by decide) (fun h => ?_) (fun h => ?_)
  · replace H := H.1 h
    exact w_vret dX12_once_45 rfl ⟨rfl, H⟩
  · replace H := H.2 h
    refine w_aload_n dX12_once_41 rfl rfl ?_
    refine w_callV (st := []) (As := []) dX12_once_42 ml_12_148 okX12_nextToken kd_261 (by decide) rfl rfl rfl (Nat.le_of_ble_eq_true rfl) (by decide) (Nat.le_of_ble_eq_true rfl) (wc_v H (fun I4 H => ?_))
    exact w_vret dX12_once_45 rfl ⟨rfl, H⟩
set_option maxRecDepth 20000 in
theorem rX12_once {a1 : Int32} {I : MI} {Q : MI → Prop} (H : ((¬ (((I 261 21) >>> (a1 &&& 31)) &&& (1 : Int32)) = 0 → (LX12_once_17 a1 0 I Q)) ∧ ((((I 261 21) >>> (a1 &&& 31)) &&& (1 : Int32)) = 0 → (LX12_once_17 a1 1 I Q)))) : Wv mX12_once [.ref 261, .int a1] I Q := by
  show WP mX12_once 286 Rf0 0 [some (.ref 261), some (.int a1)] [] I (qv Q)
  refine w_aload_n dX12_once_0 rfl rfl ?_
  refine w_aload_n dX12_once_1 rfl rfl ?_
  refine w_getI dX12_once_2 fl_12_165 okC12 kd_261 (by decide) (by decide) rfl ?_
  refine w_iload_n dX12_once_5 rfl rfl ?_
  refine w_ishr dX12_once_6 ?_
  refine w_iconst (v := 1) dX12_once_7 (by decide) ?_
  refine w_iand dX12_once_8 ?_
  refine w_if_ne (t := 16) dX12_once_9 (by decide) (fun h => ?_) (fun h => ?_)
  · replace H := H.1 h
    refine w_iconst (v := 0) dX12_once_16 (by decide) ?_
    skip
    exact H
  · replace H := H.2 h
    refine w_iconst (v := 1) dX12_once_12 (by decide) ?_
    refine w_goto (t := 17) dX12_once_13 (by decide) ?_
    skip
    exact H
theorem dX12_statement_0 : decode cX12_statement 0 = .ok (.aload_n 0, 1) := by decide +kernel
theorem dX12_statement_1 : decode cX12_statement 1 = .ok (.ldc 168, 2) := by decide +kernel
theorem dX12_statement_3 : decode cX12_statement 3 = .ok (.invokevirtual 161, 3) := by decide +kernel
theorem dX12_statement_6 : decode cX12_statement 6 = .ok (.ifCond .eq 10, 3) := by decide +kernel
theorem dX12_statement_9 : decode cX12_statement 9 = .ok (.aload_n 0, 1) := by decide +kernel
theorem dX12_statement_10 : decode cX12_statement 10 = .ok (.invokevirtual 170, 3) := by decide +kernel
theorem dX12_statement_13 : decode cX12_statement 13 = .ok (.goto 220, 3) := by decide +kernel
theorem dX12_statement_16 : decode cX12_statement 16 = .ok (.aload_n 0, 1) := by decide +kernel
theorem dX12_statement_17 : decode cX12_statement 17 = .ok (.ldc 173, 2) := by decide +kernel
theorem dX12_statement_19 : decode cX12_statement 19 = .ok (.invokevirtual 161, 3) := by decide +kernel
theorem dX12_statement_22 : decode cX12_statement 22 = .ok (.ifCond .eq 10, 3) := by decide +kernel
theorem dX12_statement_25 : decode cX12_statement 25 = .ok (.aload_n 0, 1) := by decide +kernel
theorem dX12_statement_26 : decode cX12_statement 26 = .ok (.invokevirtual 175, 3) := by decide +kernel
theorem dX12_statement_29 : decode cX12_statement 29 = .ok (.goto 204, 3) := by decide +kernel
theorem dX12_statement_32 : decode cX12_statement 32 = .ok (.aload_n 0, 1) := by decide +kernel
theorem dX12_statement_33 : decode cX12_statement 33 = .ok (.ldc 178, 2) := by decide +kernel
theorem dX12_statement_35 : decode cX12_statement 35 = .ok (.invokevirtual 161, 3) := by decide +kernel
theorem dX12_statement_38 : decode cX12_statement 38 = .ok (.ifCond .eq 59, 3) := by decide +kernel
theorem dX12_statement_41 : decode cX12_statement 41 = .ok (.aload_n 0, 1) := by decide +kernel
theorem dX12_statement_42 : decode cX12_statement 42 = .ok (.aload_n 0, 1) := by decide +kernel
theorem dX12_statement_43 : decode cX12_statement 43 = .ok (.getfield 17, 3) := by decide +kernel
theorem dX12_statement_46 : decode cX12_statement 46 = .ok (.iconst 5, 1) := by decide +kernel
theorem dX12_statement_47 : decode cX12_statement 47 = .ok (.iaload, 1) := by decide +kernel
theorem dX12_statement_48 : decode cX12_statement 48 = .ok (.aload_n 0, 1) := by decide +kernel
theorem dX12_statement_49 : decode cX12_statement 49 = .ok (.getfield 17, 3) := by decide +kernel
theorem dX12_statement_52 : decode cX12_statement 52 = .ok (.bipush 6, 2) := by decide +kernel
theorem dX12_statement_54 : decode cX12_statement 54 = .ok (.iaload, 1) := by decide +kernel
theorem dX12_statement_55 : decode cX12_statement 55 = .ok (.iadd, 1) := by decide +kernel
theorem dX12_statement_56 : decode cX12_statement 56 = .ok (.ifCond .ne 7, 3) := by decide +kernel
theorem dX12_statement_59 : decode cX12_statement 59 = .ok (.iconst 1, 1) := by decide +kernel
theorem dX12_statement_60 : decode cX12_statement 60 = .ok (.goto 4, 3) := by decide +kernel
theorem dX12_statement_63 : decode cX12_statement 63 = .ok (.iconst 0, 1) := by decide +kernel
theorem dX12_statement_64 : decode cX12_statement 64 = .ok (.iconst 1, 1) := by decide +kernel
theorem dX12_statement_65 : decode cX12_statement 65 = .ok (.invokevirtual 144, 3) := by decide +kernel
theorem dX12_statement_68 : decode cX12_statement 68 = .ok (.pop, 1) := by decide +kernel
theorem dX12_statement_69 : decode cX12_statement 69 = .ok (.aload_n 0, 1) := by decide +kernel
theorem dX12_statement_70 : decode cX12_statement 70 = .ok (.iconst 0, 1) := by decide +kernel
theorem dX12_statement_71 : decode cX12_statement 71 = .ok (.invokevirtual 180, 3) := by decide +kernel
theorem dX12_statement_74 : decode cX12_statement 74 = .ok (.aload_n 0, 1) := by decide +kernel
theorem dX12_statement_75 : decode cX12_statement 75 = .ok (.getfield 129, 3) := by decide +kernel
theorem dX12_statement_78 : decode cX12_statement 78 = .ok (.ifCond .ne 155, 3) := by decide +kernel
theorem dX12_statement_81 : decode cX12_statement 81 = .ok (.aload_n 0, 1) := by decide +kernel
theorem dX12_statement_82 : decode cX12_statement 82 = .ok (.getfield 17, 3) := by decide +kernel
theorem dX12_statement_85 : decode cX12_statement 85 = .ok (.iconst 0, 1) := by decide +kernel
theorem dX12_statement_86 : decode cX12_statement 86 = .ok (.aload_n 0, 1) := by decide +kernel
theorem dX12_statement_87 : decode cX12_statement 87 = .ok (.iconst 2, 1) := by decide +kernel
theorem dX12_statement_88 : decode cX12_statement 88 = .ok (.bipush 10, 2) := by decide +kernel
theorem dX12_statement_90 : decode cX12_statement 90 = .ok (.invokevirtual 151, 3) := by decide +kernel
theorem dX12_statement_93 : decode cX12_statement 93 = .ok (.iastore, 1) := by decide +kernel
theorem dX12_statement_94 : decode cX12_statement 94 = .ok (.goto 139, 3) := by decide +kernel
theorem dX12_statement_97 : decode cX12_statement 97 = .ok (.aload_n 0, 1) := by decide +kernel
theorem dX12_statement_98 : decode cX12_statement 98 = .ok (.ldc 183, 2) := by decide +kernel
theorem dX12_statement_100 : decode cX12_statement 100 = .ok (.invokevirtual 161, 3) := by decide +kernel
theorem dX12_statement_103 : decode cX12_statement 103 = .ok (.ifCond .eq 33, 3) := by decide +kernel
theorem dX12_statement_106 : decode cX12_statement 106 = .ok (.aload_n 0, 1) := by decide +kernel
theorem dX12_statement_107 : decode cX12_statement 107 = .ok (.iconst 1, 1) := by decide +kernel
theorem dX12_statement_108 : decode cX12_statement 108 = .ok (.invokevirtual 180, 3) := by decide +kernel
theorem dX12_statement_111 : decode cX12_statement 111 = .ok (.aload_n 0, 1) := by decide +kernel
theorem dX12_statement_112 : decode cX12_statement 112 = .ok (.getfield 129, 3) := by decide +kernel
theorem dX12_statement_115 : decode cX12_statement 115 = .ok (.ifCond .ne 118, 3) := by decide +kernel
theorem dX12_statement_118 : decode cX12_statement 118 = .ok (.aload_n 0, 1) := by decide +kernel
theorem dX12_statement_119 : decode cX12_statement 119 = .ok (.getfield 17, 3) := by decide +kernel
theorem dX12_statement_122 : decode cX12_statement 122 = .ok (.iconst 1, 1) := by decide +kernel
theorem dX12_statement_123 : decode cX12_statement 123 = .ok (.aload_n 0, 1) := by decide +kernel
theorem dX12_statement_124 : decode cX12_statement 124 = .ok (.bipush 10, 2) := by decide +kernel
theorem dX12_statement_126 : decode cX12_statement 126 = .ok (.sipush 200, 3) := by decide +kernel
theorem dX12_statement_129 : decode cX12_statement 129 = .ok (.invokevirtual 151, 3) := by decide +kernel
theorem dX12_statement_132 : decode cX12_statement 132 = .ok (.iastore, 1) := by decide +kernel
theorem dX12_statement_133 : decode cX12_statement 133 = .ok (.goto 100, 3) := by decide +kernel
theorem dX12_statement_136 : decode cX12_statement 136 = .ok (.aload_n 0, 1) := by decide +kernel
theorem dX12_statement_137 : decode cX12_statement 137 = .ok (.ldc 185, 2) := by decide +kernel
theorem dX12_statement_139 : decode cX12_statement 139 = .ok (.invokevirtual 161, 3) := by decide +kernel
theorem dX12_statement_142 : decode cX12_statement 142 = .ok (.ifCond .eq 32, 3) := by decide +kernel
theorem dX12_statement_145 : decode cX12_statement 145 = .ok (.aload_n 0, 1) := by decide +kernel
theorem dX12_statement_146 : decode cX12_statement 146 = .ok (.iconst 2, 1) := by decide +kernel
theorem dX12_statement_147 : decode cX12_statement 147 = .ok (.invokevirtual 180, 3) := by decide +kernel
theorem dX12_statement_150 : decode cX12_statement 150 = .ok (.aload_n 0, 1) := by decide +kernel
theorem dX12_statement_151 : decode cX12_statement 151 = .ok (.getfield 129, 3) := by decide +kernel
theorem dX12_statement_154 : decode cX12_statement 154 = .ok (.ifCond .ne 79, 3) := by decide +kernel
theorem dX12_statement_157 : decode cX12_statement 157 = .ok (.aload_n 0, 1) := by decide +kernel
theorem dX12_statement_158 : decode cX12_statement 158 = .ok (.getfield 17, 3) := by decide +kernel
theorem dX12_statement_161 : decode cX12_statement 161 = .ok (.iconst 2, 1) := by decide +kernel
theorem dX12_statement_162 : decode cX12_statement 162 = .ok (.aload_n 0, 1) := by decide +kernel
theorem dX12_statement_163 : decode cX12_statement 163 = .ok (.iconst 0, 1) := by decide +kernel
theorem dX12_statement_164 : decode cX12_statement 164 = .ok (.sipush 1439, 3) := by decide +kernel
theorem dX12_statement_167 : decode cX12_statement 167 = .ok (.invokevirtual 151, 3) := by decide +kernel
theorem dX12_statement_170 : decode cX12_statement 170 = .ok (.iastore, 1) := by decide +kernel
theorem dX12_statement_171 : decode cX12_statement 171 = .ok (.goto 62, 3) := by decide +kernel
theorem dX12_statement_174 : decode cX12_statement 174 = .ok (.aload_n 0, 1) := by decide +kernel
theorem dX12_statement_175 : decode cX12_statement 175 = .ok (.aload_n 0, 1) := by decide +kernel
theorem dX12_statement_176 : decode cX12_statement 176 = .ok (.ldc 187, 2) := by decide +kernel
theorem dX12_statement_178 : decode cX12_statement 178 = .ok (.invokevirtual 161, 3) := by decide +kernel
theorem dX12_statement_181 : decode cX12_statement 181 = .ok (.iconst 1, 1) := by decide +kernel
theorem dX12_statement_182 : decode cX12_statement 182 = .ok (.invokevirtual 144, 3) := by decide +kernel
theorem dX12_statement_185 : decode cX12_statement 185 = .ok (.ifCond .eq 48, 3) := by decide +kernel
theorem dX12_statement_188 : decode cX12_statement 188 = .ok (.aload_n 0, 1) := by decide +kernel
theorem dX12_statement_189 : decode cX12_statement 189 = .ok (.iconst 3, 1) := by decide +kernel
theorem dX12_statement_190 : decode cX12_statement 190 = .ok (.invokevirtual 180, 3) := by decide +kernel
theorem dX12_statement_193 : decode cX12_statement 193 = .ok (.aload_n 0, 1) := by decide +kernel
theorem dX12_statement_194 : decode cX12_statement 194 = .ok (.getfield 129, 3) := by decide +kernel
theorem dX12_statement_197 : decode cX12_statement 197 = .ok (.ifCond .ne 16, 3) := by decide +kernel
theorem dX12_statement_200 : decode cX12_statement 200 = .ok (.aload_n 0, 1) := by decide +kernel
theorem dX12_statement_201 : decode cX12_statement 201 = .ok (.getfield 17, 3) := by decide +kernel
theorem dX12_statement_204 : decode cX12_statement 204 = .ok (.iconst 3, 1) := by decide +kernel
theorem dX12_statement_205 : decode cX12_statement 205 = .ok (.aload_n 0, 1) := by decide +kernel
theorem dX12_statement_206 : decode cX12_statement 206 = .ok (.iconst 0, 1) := by decide +kernel
theorem dX12_statement_207 : decode cX12_statement 207 = .ok (.bipush 99, 2) := by decide +kernel
theorem dX12_statement_209 : decode cX12_statement 209 = .ok (.invokevirtual 151, 3) := by decide +kernel
theorem dX12_statement_212 : decode cX12_statement 212 = .ok (.iastore, 1) := by decide +kernel
theorem dX12_statement_213 : decode cX12_statement 213 = .ok (.aload_n 0, 1) := by decide +kernel
theorem dX12_statement_214 : decode cX12_statement 214 = .ok (.getfield 129, 3) := by decide +kernel
theorem dX12_statement_217 : decode cX12_statement 217 = .ok (.ifCond .ne 16, 3) := by decide +kernel
theorem dX12_statement_220 : decode cX12_statement 220 = .ok (.aload_n 0, 1) := by decide +kernel
theorem dX12_statement_221 : decode cX12_statement 221 = .ok (.getfield 17, 3) := by decide +kernel
theorem dX12_statement_224 : decode cX12_statement 224 = .ok (.iconst 4, 1) := by decide +kernel
theorem dX12_statement_225 : decode cX12_statement 225 = .ok (.aload_n 0, 1) := by decide +kernel
theorem dX12_statement_226 : decode cX12_statement 226 = .ok (.iconst 0, 1) := by decide +kernel
theorem dX12_statement_227 : decode cX12_statement 227 = .ok (.bipush 99, 2) := by decide +kernel
theorem dX12_statement_229 : decode cX12_statement 229 = .ok (.invokevirtual 151, 3) := by decide +kernel
theorem dX12_statement_232 : decode cX12_statement 232 = .ok (.iastore, 1) := by decide +kernel
theorem dX12_statement_233 : decode cX12_statement 233 = .ok (.return_, 1) := by decide +kernel
abbrev LX12_statement_64 (t1 : Int32) (I : MI) (Q : MI → Prop) : Prop := WP mX12_statement 286 Rf0 64 [some (.ref 261)] [.int t1, .ref 261] I (qv Q)
abbrev LX12_statement_213 (I : MI) (Q : MI → Prop) : Prop := WP mX12_statement 286 Rf0 213 [some (.ref 261)] [] I (qv Q)
set_option maxRecDepth 20000 in
theorem rX12_statement_64 {t1 : Int32} {I : MI} {Q : MI → Prop} (H : (Wi mX12_must [.ref 261, .int t1, .int 1] I (fun r2 I1 => (Wv mX12_once [.ref 261, .int 0] I1 (fun I3 => ((¬ (I3 261 8) = 0 → (Q I3)) ∧ ((I3 261 8) = 0 → (Wi mX12_number [.ref 261, .int 2, .int 10] I3 (fun r5 I4 => (vp_in 0 7 ∧ ∀ I6 : MI, I6 = up2 I4 264 (0 : Int32).toNatClampNeg r5 → Q I6)))))))))) : LX12_statement_64 t1 I Q := by
  show WP mX12_statement 286 Rf0 64 [some (.ref 261)] [.int t1, .ref 261] I (qv Q)
  refine w_iconst (v := 1) dX12_statement_64 (by decide) ?_
  refine w_callV (st := []) (As := [.int t1, .int 1]) dX12_statement_65 ml_12_144 okX12_must kd_261 (by decide) rfl rfl rfl (Nat.le_of_ble_eq_true rfl) (by decide) (Nat.le_of_ble_eq_true rfl) (wc_i H (fun r2 I1 H => ?_))
  refine w_pop dX12_statement_68 rfl ?_
  refine w_aload_n dX12_statement_69 rfl rfl ?_
  refine w_iconst (v := 0) dX12_statement_70 (by decide) ?_
  refine w_callV (st := []) (As := [.int 0]) dX12_statement_71 ml_12_180 okX12_once kd_261 (by decide) rfl rfl rfl (Nat.le_of_ble_eq_true rfl) (by decide) (Nat.le_of_ble_eq_true rfl) (wc_v H (fun I3 H => ?_))
  refine w_aload_n dX12_statement_74 rfl rfl ?_
  refine w_getI dX12_statement_75 fl_12_129 okC12 kd_261 (by decide) (by decide) rfl ?_
  refine w_if_ne (t := 233) dX12_statement_78 (by decide) (fun h => ?_) (fun h => ?_)
  · replace H := H.1 h
    exact w_vret dX12_statement_233 rfl ⟨rfl, H⟩
  · replace H := H.2 h
    refine w_aload_n dX12_statement_81 rfl rfl ?_
    refine w_getR dX12_statement_82 fl_12_17 okC12 kd_261 (by decide) (by decide) rfl rf_261_11 ?_
    refine w_iconst (v := 0) dX12_statement_85 (by decide) ?_
    refine w_aload_n dX12_statement_86 rfl rfl ?_
    refine w_iconst (v := 2) dX12_statement_87 (by decide) ?_
    refine w_bipush (v := 10) dX12_statement_88 (by decide) ?_
    refine w_callV (st := [.int 0, .ref 264]) (As := [.int 2, .int 10]) dX12_statement_90 ml_12_151 okX12_number kd_261 (by decide) rfl rfl rfl (Nat.le_of_ble_eq_true rfl) (by decide) (Nat.le_of_ble_eq_true rfl) (wc_i H (fun r5 I4 H => ?_))
    refine w_iast dX12_statement_93 kd_264 (by decide) H.1 (w_up fun I6 hI => ?_)
    replace H := H.2 I6 hI
    refine w_goto (t := 233) dX12_statement_94 (by decide) ?_
    exact w_vret dX12_statement_233 rfl ⟨rfl, H⟩
set_option maxRecDepth 20000 in
theorem rX12_statement_213 {I : MI} {Q : MI → Prop} (H : ((¬ (I 261 8) = 0 → (Q I)) ∧ ((I 261 8) = 0 → (Wi mX12_number [.ref 261, .int 0, .int 99] I (fun r2 I1 => (vp_in 4 7 ∧ ∀ I3 : MI, I3 = up2 I1 264 (4 : Int32).toNatClampNeg r2 → Q I3)))))) : LX12_statement_213  I Q := by
  show WP mX12_statement 286 Rf0 213 [some (.ref 261)] [] I (qv Q)
  refine w_aload_n dX12_statement_213 rfl rfl ?_
  refine w_getI dX12_statement_214 fl_12_129 okC12 kd_261 (by decide) (by decide) rfl ?_
  refine w_if_ne (t := 233) dX12_statement_217 (by decide) (fun h => ?_) (fun h => ?_)
  · replace H := H.1 h
    exact w_vret dX12_statement_233 rfl ⟨rfl, H⟩
  · replace H := H.2 h
    refine w_aload_n dX12_statement_220 rfl rfl ?_
    refine w_getR dX12_statement_221 fl_12_17 okC12 kd_261 (by decide) (by decide) rfl rf_261_11 ?_
    refine w_iconst (v := 4) dX12_statement_224 (by decide) ?_
    refine w_aload_n dX12_statement_225 rfl rfl ?_
    refine w_iconst (v := 0) dX12_statement_226 (by decide) ?_
    refine w_bipush (v := 99) dX12_statement_227 (by decide) ?_
    refine w_callV (st := [.int 4, .ref 264]) (As := [.int 0, .int 99]) dX12_statement_229 ml_12_151 okX12_number kd_261 (by decide) rfl rfl rfl (Nat.le_of_ble_eq_true rfl) (by decide) (Nat.le_of_ble_eq_true rfl) (wc_i H (fun r2 I1 H => ?_))
    refine w_iast dX12_statement_232 kd_264 (by decide) H.1 (w_up fun I3 hI => ?_)
    replace H := H.2 I3 hI
    exact w_vret dX12_statement_233 rfl ⟨rfl, H⟩
set_option maxRecDepth 20000 in
theorem rX12_statement {I : MI} {Q : MI → Prop} (H : (Wi mX12_is [.ref 261, .retAddr (2 * 4 + 1)] I (fun r2 I1 => ((r2 = 0 → (Wi mX12_is [.ref 261, .retAddr (2 * 5 + 1)] I1 (fun r4 I3 => ((r4 = 0 → (Wi mX12_is [.ref 261, .retAddr (2 * 0 + 1)] I3 (fun r6 I5 => ((r6 = 0 → (Wi mX12_is [.ref 261, .retAddr (2 * 1 + 1)] I5 (fun r8 I7 => ((r8 = 0 → (Wi mX12_is [.ref 261, .retAddr (2 * 2 + 1)] I7 (fun r10 I9 => ((r10 = 0 → (Wi mX12_is [.ref 261, .retAddr (2 * 3 + 1)] I9 (fun r12 I11 => (Wi mX12_must [.ref 261, .int r12, .int 1] I11 (fun r14 I13 => ((r14 = 0 → (Q I13)) ∧ (¬ r14 = 0 → (Wv mX12_once [.ref 261, .int 3] I13 (fun I15 => ((¬ (I15 261 8) = 0 → (LX12_statement_213  I15 Q)) ∧ ((I15 261 8) = 0 → (Wi mX12_number [.ref 261, .int 0, .int 99] I15 (fun r17 I16 => (vp_in 3 7 ∧ ∀ I18 : MI, I18 = up2 I16 264 (3 : Int32).toNatClampNeg r17 → LX12_statement_213  I18 Q)))))))))))))) ∧ (¬ r10 = 0 → (Wv mX12_once [.ref 261, .int 2] I9 (fun I11 => ((¬ (I11 261 8) = 0 → (Q I11)) ∧ ((I11 261 8) = 0 → (Wi mX12_number [.ref 261, .int 0, .int 1439] I11 (fun r13 I12 => (vp_in 2 7 ∧ ∀ I14 : MI, I14 = up2 I12 264 (2 : Int32).toNatClampNeg r13 → Q I14)))))))))))) ∧ (¬ r8 = 0 → (Wv mX12_once [.ref 261, .int 1] I7 (fun I9 => ((¬ (I9 261 8) = 0 → (Q I9)) ∧ ((I9 261 8) = 0 → (Wi mX12_number [.ref 261, .int 10, .int 200] I9 (fun r11 I10 => (vp_in 1 7 ∧ ∀ I12 : MI, I12 = up2 I10 264 (1 : Int32).toNatClampNeg r11 → Q I12)))))))))))) ∧ (¬ r6 = 0 → (vp_in 5 7 ∧ vp_in 6 7 ∧ (¬ ((I5 264 (5 : Int32).toNatClampNeg) + (I5 264 (6 : Int32).toNatClampNeg)) = 0 → (LX12_statement_64 0 I5 Q)) ∧ (((I5 264 (5 : Int32).toNatClampNeg) + (I5 264 (6 : Int32).toNatClampNeg)) = 0 → (LX12_statement_64 1 I5 Q)))))))) ∧ (¬ r4 = 0 → (Wv mX12_readHouse [.ref 261] I3 (fun I5 => (Q I5)))))))) ∧ (¬ r2 = 0 → (Wv mX12_readStreet [.ref 261] I1 (fun I3 => (Q I3)))))))) : Wv mX12_statement [.ref 261] I Q := by
  show WP mX12_statement 286 Rf0 0 [some (.ref 261)] [] I (qv Q)
  refine w_aload_n dX12_statement_0 rfl rfl ?_
  refine w_ldcS (j := 4) (tx := "street") dX12_statement_1 (by decide +kernel) ?_
  refine w_callV (st := []) (As := [.retAddr (2 * 4 + 1)]) dX12_statement_3 ml_12_161 okX12_is kd_261 (by decide) rfl rfl rfl (Nat.le_of_ble_eq_true rfl) (by decide) (Nat.le_of_ble_eq_true rfl) (wc_i H (fun r2 I1 H => ?_))
  refine w_if_eq (t := 16) dX12_statement_6 (by decide) (fun h => ?_) (fun h => ?_)
  · replace H := H.1 h
    refine w_aload_n dX12_statement_16 rfl rfl ?_
    refine w_ldcS (j := 5) (tx := "house") dX12_statement_17 (by decide +kernel) ?_
    refine w_callV (st := []) (As := [.retAddr (2 * 5 + 1)]) dX12_statement_19 ml_12_161 okX12_is kd_261 (by decide) rfl rfl rfl (Nat.le_of_ble_eq_true rfl) (by decide) (Nat.le_of_ble_eq_true rfl) (wc_i H (fun r4 I3 H => ?_))
    refine w_if_eq (t := 32) dX12_statement_22 (by decide) (fun h => ?_) (fun h => ?_)
    · replace H := H.1 h
      refine w_aload_n dX12_statement_32 rfl rfl ?_
      refine w_ldcS (j := 0) (tx := "nodes") dX12_statement_33 (by decide +kernel) ?_
      refine w_callV (st := []) (As := [.retAddr (2 * 0 + 1)]) dX12_statement_35 ml_12_161 okX12_is kd_261 (by decide) rfl rfl rfl (Nat.le_of_ble_eq_true rfl) (by decide) (Nat.le_of_ble_eq_true rfl) (wc_i H (fun r6 I5 H => ?_))
      refine w_if_eq (t := 97) dX12_statement_38 (by decide) (fun h => ?_) (fun h => ?_)
      · replace H := H.1 h
        refine w_aload_n dX12_statement_97 rfl rfl ?_
        refine w_ldcS (j := 1) (tx := "cart") dX12_statement_98 (by decide +kernel) ?_
        refine w_callV (st := []) (As := [.retAddr (2 * 1 + 1)]) dX12_statement_100 ml_12_161 okX12_is kd_261 (by decide) rfl rfl rfl (Nat.le_of_ble_eq_true rfl) (by decide) (Nat.le_of_ble_eq_true rfl) (wc_i H (fun r8 I7 H => ?_))
        refine w_if_eq (t := 136) dX12_statement_103 (by decide) (fun h => ?_) (fun h => ?_)
        · replace H := H.1 h
          refine w_aload_n dX12_statement_136 rfl rfl ?_
          refine w_ldcS (j := 2) (tx := "start") dX12_statement_137 (by decide +kernel) ?_
          refine w_callV (st := []) (As := [.retAddr (2 * 2 + 1)]) dX12_statement_139 ml_12_161 okX12_is kd_261 (by decide) rfl rfl rfl (Nat.le_of_ble_eq_true rfl) (by decide) (Nat.le_of_ble_eq_true rfl) (wc_i H (fun r10 I9 H => ?_))
          refine w_if_eq (t := 174) dX12_statement_142 (by decide) (fun h => ?_) (fun h => ?_)
          · replace H := H.1 h
            refine w_aload_n dX12_statement_174 rfl rfl ?_
            refine w_aload_n dX12_statement_175 rfl rfl ?_
            refine w_ldcS (j := 3) (tx := "price") dX12_statement_176 (by decide +kernel) ?_
            refine w_callV (st := [.ref 261]) (As := [.retAddr (2 * 3 + 1)]) dX12_statement_178 ml_12_161 okX12_is kd_261 (by decide) rfl rfl rfl (Nat.le_of_ble_eq_true rfl) (by decide) (Nat.le_of_ble_eq_true rfl) (wc_i H (fun r12 I11 H => ?_))
            refine w_iconst (v := 1) dX12_statement_181 (by decide) ?_
            refine w_callV (st := []) (As := [.int r12, .int 1]) dX12_statement_182 ml_12_144 okX12_must kd_261 (by decide) rfl rfl rfl (Nat.le_of_ble_eq_true rfl) (by decide) (Nat.le_of_ble_eq_true rfl) (wc_i H (fun r14 I13 H => ?_))
            refine w_if_eq (t := 233) dX12_statement_185 (by decide) (fun h => ?_) (fun h => ?_)
            · replace H := H.1 h
              exact w_vret dX12_statement_233 rfl ⟨rfl, H⟩
            · replace H := H.2 h
              refine w_aload_n dX12_statement_188 rfl rfl ?_
              refine w_iconst (v := 3) dX12_statement_189 (by decide) ?_
              refine w_callV (st := []) (As := [.int 3]) dX12_statement_190 ml_12_180 okX12_once kd_261 (by decide) rfl rfl rfl (Nat.le_of_ble_eq_true rfl) (by decide) (Nat.le_of_ble_eq_true rfl) (wc_v H (fun I15 H => ?_))
              refine w_aload_n dX12_statement_193 rfl rfl ?_
              refine w_getI dX12_statement_194 fl_12_129 okC12 kd_261 (by decide) (by decide) rfl ?_
              refine w_if_ne (t := 213) dX12_statement_197 (by decide) (fun h => ?_) (fun h => ?_)
              · replace H := H.1 h
                skip
                exact H
              · replace H := H.2 h
                refine w_aload_n dX12_statement_200 rfl rfl ?_
                refine w_getR dX12_statement_201 fl_12_17 okC12 kd_261 (by decide) (by decide) rfl rf_261_11 ?_
                refine w_iconst (v := 3) dX12_statement_204 (by decide) ?_
                refine w_aload_n dX12_statement_205 rfl rfl ?_
                refine w_iconst (v := 0) dX12_statement_206 (by decide) ?_
                refine w_bipush (v := 99) dX12_statement_207 (by decide) ?_
                refine w_callV (st := [.int 3, .ref 264]) (As := [.int 0, .int 99]) dX12_statement_209 ml_12_151 okX12_number kd_261 (by decide) rfl rfl rfl (Nat.le_of_ble_eq_true rfl) (by decide) (Nat.le_of_ble_eq_true rfl) (wc_i H (fun r17 I16 H => ?_))
                refine w_iast dX12_statement_212 kd_264 (by decide) H.1 (w_up fun I18 hI => ?_)
                replace H := H.2 I18 hI
                skip
                exact H
          · replace H := H.2 h
            refine w_aload_n dX12_statement_145 rfl rfl ?_
            refine w_iconst (v := 2) dX12_statement_146 (by decide) ?_
            refine w_callV (st := []) (As := [.int 2]) dX12_statement_147 ml_12_180 okX12_once kd_261 (by decide) rfl rfl rfl (Nat.le_of_ble_eq_true rfl) (by decide) (Nat.le_of_ble_eq_true rfl) (wc_v H (fun I11 H => ?_))
            refine w_aload_n dX12_statement_150 rfl rfl ?_
            refine w_getI dX12_statement_151 fl_12_129 okC12 kd_261 (by decide) (by decide) rfl ?_
            refine w_if_ne (t := 233) dX12_statement_154 (by decide) (fun h => ?_) (fun h => ?_)
            · replace H := H.1 h
              exact w_vret dX12_statement_233 rfl ⟨rfl, H⟩
            · replace H := H.2 h
              refine w_aload_n dX12_statement_157 rfl rfl ?_
              refine w_getR dX12_statement_158 fl_12_17 okC12 kd_261 (by decide) (by decide) rfl rf_261_11 ?_
              refine w_iconst (v := 2) dX12_statement_161 (by decide) ?_
              refine w_aload_n dX12_statement_162 rfl rfl ?_
              refine w_iconst (v := 0) dX12_statement_163 (by decide) ?_
              refine w_sipush (v := 1439) dX12_statement_164 (by decide) ?_
              refine w_callV (st := [.int 2, .ref 264]) (As := [.int 0, .int 1439]) dX12_statement_167 ml_12_151 okX12_number kd_261 (by decide) rfl rfl rfl (Nat.le_of_ble_eq_true rfl) (by decide) (Nat.le_of_ble_eq_true rfl) (wc_i H (fun r13 I12 H => ?_))
              refine w_iast dX12_statement_170 kd_264 (by decide) H.1 (w_up fun I14 hI => ?_)
              replace H := H.2 I14 hI
              refine w_goto (t := 233) dX12_statement_171 (by decide) ?_
              exact w_vret dX12_statement_233 rfl ⟨rfl, H⟩
        · replace H := H.2 h
          refine w_aload_n dX12_statement_106 rfl rfl ?_
          refine w_iconst (v := 1) dX12_statement_107 (by decide) ?_
          refine w_callV (st := []) (As := [.int 1]) dX12_statement_108 ml_12_180 okX12_once kd_261 (by decide) rfl rfl rfl (Nat.le_of_ble_eq_true rfl) (by decide) (Nat.le_of_ble_eq_true rfl) (wc_v H (fun I9 H => ?_))
          refine w_aload_n dX12_statement_111 rfl rfl ?_
          refine w_getI dX12_statement_112 fl_12_129 okC12 kd_261 (by decide) (by decide) rfl ?_
          refine w_if_ne (t := 233) dX12_statement_115 (by decide) (fun h => ?_) (fun h => ?_)
          · replace H := H.1 h
            exact w_vret dX12_statement_233 rfl ⟨rfl, H⟩
          · replace H := H.2 h
            refine w_aload_n dX12_statement_118 rfl rfl ?_
            refine w_getR dX12_statement_119 fl_12_17 okC12 kd_261 (by decide) (by decide) rfl rf_261_11 ?_
            refine w_iconst (v := 1) dX12_statement_122 (by decide) ?_
            refine w_aload_n dX12_statement_123 rfl rfl ?_
            refine w_bipush (v := 10) dX12_statement_124 (by decide) ?_
            refine w_sipush (v := 200) dX12_statement_126 (by decide) ?_
            refine w_callV (st := [.int 1, .ref 264]) (As := [.int 10, .int 200]) dX12_statement_129 ml_12_151 okX12_number kd_261 (by decide) rfl rfl rfl (Nat.le_of_ble_eq_true rfl) (by decide) (Nat.le_of_ble_eq_true rfl) (wc_i H (fun r11 I10 H => ?_))
            refine w_iast dX12_statement_132 kd_264 (by decide) H.1 (w_up fun I12 hI => ?_)
            replace H := H.2 I12 hI
            refine w_goto (t := 233) dX12_statement_133 (by decide) ?_
            exact w_vret dX12_statement_233 rfl ⟨rfl, H⟩
      · replace H := H.2 h
        refine w_aload_n dX12_statement_41 rfl rfl ?_
        refine w_aload_n dX12_statement_42 rfl rfl ?_
        refine w_getR dX12_statement_43 fl_12_17 okC12 kd_261 (by decide) (by decide) rfl rf_261_11 ?_
        refine w_iconst (v := 5) dX12_statement_46 (by decide) ?_
        refine w_iald dX12_statement_47 kd_264 (by decide) H.1 ?_
        replace H := H.2
        refine w_aload_n dX12_statement_48 rfl rfl ?_
        refine w_getR dX12_statement_49 fl_12_17 okC12 kd_261 (by decide) (by decide) rfl rf_261_11 ?_
        refine w_bipush (v := 6) dX12_statement_52 (by decide) ?_
        refine w_iald dX12_statement_54 kd_264 (by decide) H.1 ?_
        replace H := H.2
        refine w_iadd dX12_statement_55 ?_
        refine w_if_ne (t := 63) dX12_statement_56 (by decide) (fun h => ?_) (fun h => ?_)
        · replace H := H.1 h
          refine w_iconst (v := 0) dX12_statement_63 (by decide) ?_
          skip
          exact H
        · replace H := H.2 h
          refine w_iconst (v := 1) dX12_statement_59 (by decide) ?_
          refine w_goto (t := 64) dX12_statement_60 (by decide) ?_
          skip
          exact H
    · replace H := H.2 h
      refine w_aload_n dX12_statement_25 rfl rfl ?_
      refine w_callV (st := []) (As := []) dX12_statement_26 ml_12_175 okX12_readHouse kd_261 (by decide) rfl rfl rfl (Nat.le_of_ble_eq_true rfl) (by decide) (Nat.le_of_ble_eq_true rfl) (wc_v H (fun I5 H => ?_))
      refine w_goto (t := 233) dX12_statement_29 (by decide) ?_
      exact w_vret dX12_statement_233 rfl ⟨rfl, H⟩
  · replace H := H.2 h
    refine w_aload_n dX12_statement_9 rfl rfl ?_
    refine w_callV (st := []) (As := []) dX12_statement_10 ml_12_170 okX12_readStreet kd_261 (by decide) rfl rfl rfl (Nat.le_of_ble_eq_true rfl) (by decide) (Nat.le_of_ble_eq_true rfl) (wc_v H (fun I3 H => ?_))
    refine w_goto (t := 233) dX12_statement_13 (by decide) ?_
    exact w_vret dX12_statement_233 rfl ⟨rfl, H⟩
theorem dX12_parse_0 : decode cX12_parse 0 = .ok (.aload_n 0, 1) := by decide +kernel
theorem dX12_parse_1 : decode cX12_parse 1 = .ok (.iconst 0, 1) := by decide +kernel
theorem dX12_parse_2 : decode cX12_parse 2 = .ok (.putfield 87, 3) := by decide +kernel
theorem dX12_parse_5 : decode cX12_parse 5 = .ok (.iload_n 1, 1) := by decide +kernel
theorem dX12_parse_6 : decode cX12_parse 6 = .ok (.i2l, 1) := by decide +kernel
theorem dX12_parse_7 : decode cX12_parse 7 = .ok (.lconst 0, 1) := by decide +kernel
theorem dX12_parse_8 : decode cX12_parse 8 = .ok (.aload_n 0, 1) := by decide +kernel
theorem dX12_parse_9 : decode cX12_parse 9 = .ok (.getfield 91, 3) := by decide +kernel
theorem dX12_parse_12 : decode cX12_parse 12 = .ok (.i2l, 1) := by decide +kernel
theorem dX12_parse_13 : decode cX12_parse 13 = .ok (.invokestatic 118, 3) := by decide +kernel
theorem dX12_parse_16 : decode cX12_parse 16 = .ok (.ifCond .ne 5, 3) := by decide +kernel
theorem dX12_parse_19 : decode cX12_parse 19 = .ok (.iconst (-1), 1) := by decide +kernel
theorem dX12_parse_20 : decode cX12_parse 20 = .ok (.ireturn, 1) := by decide +kernel
theorem dX12_parse_21 : decode cX12_parse 21 = .ok (.aload_n 0, 1) := by decide +kernel
theorem dX12_parse_22 : decode cX12_parse 22 = .ok (.iload_n 1, 1) := by decide +kernel
theorem dX12_parse_23 : decode cX12_parse 23 = .ok (.putfield 98, 3) := by decide +kernel
theorem dX12_parse_26 : decode cX12_parse 26 = .ok (.aload_n 0, 1) := by decide +kernel
theorem dX12_parse_27 : decode cX12_parse 27 = .ok (.iconst 0, 1) := by decide +kernel
theorem dX12_parse_28 : decode cX12_parse 28 = .ok (.putfield 91, 3) := by decide +kernel
theorem dX12_parse_31 : decode cX12_parse 31 = .ok (.aload_n 0, 1) := by decide +kernel
theorem dX12_parse_32 : decode cX12_parse 32 = .ok (.iconst 0, 1) := by decide +kernel
theorem dX12_parse_33 : decode cX12_parse 33 = .ok (.putfield 101, 3) := by decide +kernel
theorem dX12_parse_36 : decode cX12_parse 36 = .ok (.aload_n 0, 1) := by decide +kernel
theorem dX12_parse_37 : decode cX12_parse 37 = .ok (.iconst 0, 1) := by decide +kernel
theorem dX12_parse_38 : decode cX12_parse 38 = .ok (.putfield 129, 3) := by decide +kernel
theorem dX12_parse_41 : decode cX12_parse 41 = .ok (.aload_n 0, 1) := by decide +kernel
theorem dX12_parse_42 : decode cX12_parse 42 = .ok (.iconst 0, 1) := by decide +kernel
theorem dX12_parse_43 : decode cX12_parse 43 = .ok (.putfield 165, 3) := by decide +kernel
theorem dX12_parse_46 : decode cX12_parse 46 = .ok (.aload_n 0, 1) := by decide +kernel
theorem dX12_parse_47 : decode cX12_parse 47 = .ok (.getfield 17, 3) := by decide +kernel
theorem dX12_parse_50 : decode cX12_parse 50 = .ok (.iconst 0, 1) := by decide +kernel
theorem dX12_parse_51 : decode cX12_parse 51 = .ok (.iconst 2, 1) := by decide +kernel
theorem dX12_parse_52 : decode cX12_parse 52 = .ok (.iastore, 1) := by decide +kernel
theorem dX12_parse_53 : decode cX12_parse 53 = .ok (.aload_n 0, 1) := by decide +kernel
theorem dX12_parse_54 : decode cX12_parse 54 = .ok (.getfield 17, 3) := by decide +kernel
theorem dX12_parse_57 : decode cX12_parse 57 = .ok (.iconst 1, 1) := by decide +kernel
theorem dX12_parse_58 : decode cX12_parse 58 = .ok (.bipush 60, 2) := by decide +kernel
theorem dX12_parse_60 : decode cX12_parse 60 = .ok (.iastore, 1) := by decide +kernel
theorem dX12_parse_61 : decode cX12_parse 61 = .ok (.aload_n 0, 1) := by decide +kernel
theorem dX12_parse_62 : decode cX12_parse 62 = .ok (.getfield 17, 3) := by decide +kernel
theorem dX12_parse_65 : decode cX12_parse 65 = .ok (.iconst 2, 1) := by decide +kernel
theorem dX12_parse_66 : decode cX12_parse 66 = .ok (.sipush 300, 3) := by decide +kernel
theorem dX12_parse_69 : decode cX12_parse 69 = .ok (.iastore, 1) := by decide +kernel
theorem dX12_parse_70 : decode cX12_parse 70 = .ok (.aload_n 0, 1) := by decide +kernel
theorem dX12_parse_71 : decode cX12_parse 71 = .ok (.getfield 17, 3) := by decide +kernel
theorem dX12_parse_74 : decode cX12_parse 74 = .ok (.iconst 3, 1) := by decide +kernel
theorem dX12_parse_75 : decode cX12_parse 75 = .ok (.iconst 5, 1) := by decide +kernel
theorem dX12_parse_76 : decode cX12_parse 76 = .ok (.iastore, 1) := by decide +kernel
theorem dX12_parse_77 : decode cX12_parse 77 = .ok (.aload_n 0, 1) := by decide +kernel
theorem dX12_parse_78 : decode cX12_parse 78 = .ok (.getfield 17, 3) := by decide +kernel
theorem dX12_parse_81 : decode cX12_parse 81 = .ok (.iconst 4, 1) := by decide +kernel
theorem dX12_parse_82 : decode cX12_parse 82 = .ok (.bipush 10, 2) := by decide +kernel
theorem dX12_parse_84 : decode cX12_parse 84 = .ok (.iastore, 1) := by decide +kernel
theorem dX12_parse_85 : decode cX12_parse 85 = .ok (.aload_n 0, 1) := by decide +kernel
theorem dX12_parse_86 : decode cX12_parse 86 = .ok (.getfield 17, 3) := by decide +kernel
theorem dX12_parse_89 : decode cX12_parse 89 = .ok (.iconst 5, 1) := by decide +kernel
theorem dX12_parse_90 : decode cX12_parse 90 = .ok (.iconst 0, 1) := by decide +kernel
theorem dX12_parse_91 : decode cX12_parse 91 = .ok (.iastore, 1) := by decide +kernel
theorem dX12_parse_92 : decode cX12_parse 92 = .ok (.aload_n 0, 1) := by decide +kernel
theorem dX12_parse_93 : decode cX12_parse 93 = .ok (.getfield 17, 3) := by decide +kernel
theorem dX12_parse_96 : decode cX12_parse 96 = .ok (.bipush 6, 2) := by decide +kernel
theorem dX12_parse_98 : decode cX12_parse 98 = .ok (.iconst 0, 1) := by decide +kernel
theorem dX12_parse_99 : decode cX12_parse 99 = .ok (.iastore, 1) := by decide +kernel
theorem dX12_parse_100 : decode cX12_parse 100 = .ok (.aload_n 0, 1) := by decide +kernel
theorem dX12_parse_101 : decode cX12_parse 101 = .ok (.invokevirtual 148, 3) := by decide +kernel
theorem dX12_parse_104 : decode cX12_parse 104 = .ok (.aload_n 0, 1) := by decide +kernel
theorem dX12_parse_105 : decode cX12_parse 105 = .ok (.getfield 129, 3) := by decide +kernel
theorem dX12_parse_108 : decode cX12_parse 108 = .ok (.ifCond .ne 43, 3) := by decide +kernel
theorem dX12_parse_111 : decode cX12_parse 111 = .ok (.aload_n 0, 1) := by decide +kernel
theorem dX12_parse_112 : decode cX12_parse 112 = .ok (.getfield 111, 3) := by decide +kernel
theorem dX12_parse_115 : decode cX12_parse 115 = .ok (.ifCond .eq 36, 3) := by decide +kernel
theorem dX12_parse_118 : decode cX12_parse 118 = .ok (.aload_n 0, 1) := by decide +kernel
theorem dX12_parse_119 : decode cX12_parse 119 = .ok (.invokevirtual 189, 3) := by decide +kernel
theorem dX12_parse_122 : decode cX12_parse 122 = .ok (.aload_n 0, 1) := by decide +kernel
theorem dX12_parse_123 : decode cX12_parse 123 = .ok (.aload_n 0, 1) := by decide +kernel
theorem dX12_parse_124 : decode cX12_parse 124 = .ok (.getfield 111, 3) := by decide +kernel
theorem dX12_parse_127 : decode cX12_parse 127 = .ok (.bipush 59, 2) := by decide +kernel
theorem dX12_parse_129 : decode cX12_parse 129 = .ok (.if_icmp .ne 7, 3) := by decide +kernel
theorem dX12_parse_132 : decode cX12_parse 132 = .ok (.iconst 1, 1) := by decide +kernel
theorem dX12_parse_133 : decode cX12_parse 133 = .ok (.goto 4, 3) := by decide +kernel
theorem dX12_parse_136 : decode cX12_parse 136 = .ok (.iconst 0, 1) := by decide +kernel
theorem dX12_parse_137 : decode cX12_parse 137 = .ok (.iconst 1, 1) := by decide +kernel
theorem dX12_parse_138 : decode cX12_parse 138 = .ok (.invokevirtual 144, 3) := by decide +kernel
theorem dX12_parse_141 : decode cX12_parse 141 = .ok (.ifCond .eq (-37), 3) := by decide +kernel
theorem dX12_parse_144 : decode cX12_parse 144 = .ok (.aload_n 0, 1) := by decide +kernel
theorem dX12_parse_145 : decode cX12_parse 145 = .ok (.invokevirtual 148, 3) := by decide +kernel
theorem dX12_parse_148 : decode cX12_parse 148 = .ok (.goto (-44), 3) := by decide +kernel
theorem dX12_parse_151 : decode cX12_parse 151 = .ok (.aload_n 0, 1) := by decide +kernel
theorem dX12_parse_152 : decode cX12_parse 152 = .ok (.getfield 129, 3) := by decide +kernel
theorem dX12_parse_155 : decode cX12_parse 155 = .ok (.ifCond .eq 19, 3) := by decide +kernel
theorem dX12_parse_158 : decode cX12_parse 158 = .ok (.bipush (-2), 2) := by decide +kernel
theorem dX12_parse_160 : decode cX12_parse 160 = .ok (.bipush 8, 2) := by decide +kernel
theorem dX12_parse_162 : decode cX12_parse 162 = .ok (.aload_n 0, 1) := by decide +kernel
theorem dX12_parse_163 : decode cX12_parse 163 = .ok (.getfield 132, 3) := by decide +kernel
theorem dX12_parse_166 : decode cX12_parse 166 = .ok (.imul, 1) := by decide +kernel
theorem dX12_parse_167 : decode cX12_parse 167 = .ok (.aload_n 0, 1) := by decide +kernel
theorem dX12_parse_168 : decode cX12_parse 168 = .ok (.getfield 129, 3) := by decide +kernel
theorem dX12_parse_171 : decode cX12_parse 171 = .ok (.iadd, 1) := by decide +kernel
theorem dX12_parse_172 : decode cX12_parse 172 = .ok (.isub, 1) := by decide +kernel
theorem dX12_parse_173 : decode cX12_parse 173 = .ok (.ireturn, 1) := by decide +kernel
theorem dX12_parse_174 : decode cX12_parse 174 = .ok (.iconst 0, 1) := by decide +kernel
theorem dX12_parse_175 : decode cX12_parse 175 = .ok (.istore_n 2, 1) := by decide +kernel
theorem dX12_parse_176 : decode cX12_parse 176 = .ok (.iload_n 2, 1) := by decide +kernel
theorem dX12_parse_177 : decode cX12_parse 177 = .ok (.bipush 7, 2) := by decide +kernel
theorem dX12_parse_179 : decode cX12_parse 179 = .ok (.if_icmp .ge 21, 3) := by decide +kernel
theorem dX12_parse_182 : decode cX12_parse 182 = .ok (.aload_n 0, 1) := by decide +kernel
theorem dX12_parse_183 : decode cX12_parse 183 = .ok (.getfield 13, 3) := by decide +kernel
theorem dX12_parse_186 : decode cX12_parse 186 = .ok (.iload_n 2, 1) := by decide +kernel
theorem dX12_parse_187 : decode cX12_parse 187 = .ok (.aload_n 0, 1) := by decide +kernel
theorem dX12_parse_188 : decode cX12_parse 188 = .ok (.getfield 17, 3) := by decide +kernel
theorem dX12_parse_191 : decode cX12_parse 191 = .ok (.iload_n 2, 1) := by decide +kernel
theorem dX12_parse_192 : decode cX12_parse 192 = .ok (.iaload, 1) := by decide +kernel
theorem dX12_parse_193 : decode cX12_parse 193 = .ok (.iastore, 1) := by decide +kernel
theorem dX12_parse_194 : decode cX12_parse 194 = .ok (.iinc 2 1, 3) := by decide +kernel
theorem dX12_parse_197 : decode cX12_parse 197 = .ok (.goto (-21), 3) := by decide +kernel
theorem dX12_parse_200 : decode cX12_parse 200 = .ok (.aload_n 0, 1) := by decide +kernel
theorem dX12_parse_201 : decode cX12_parse 201 = .ok (.getfield 20, 3) := by decide +kernel
theorem dX12_parse_204 : decode cX12_parse 204 = .ok (.invokestatic 192, 3) := by decide +kernel
theorem dX12_parse_207 : decode cX12_parse 207 = .ok (.aload_n 0, 1) := by decide +kernel
theorem dX12_parse_208 : decode cX12_parse 208 = .ok (.getfield 23, 3) := by decide +kernel
theorem dX12_parse_211 : decode cX12_parse 211 = .ok (.invokestatic 192, 3) := by decide +kernel
theorem dX12_parse_214 : decode cX12_parse 214 = .ok (.aload_n 0, 1) := by decide +kernel
theorem dX12_parse_215 : decode cX12_parse 215 = .ok (.getfield 26, 3) := by decide +kernel
theorem dX12_parse_218 : decode cX12_parse 218 = .ok (.invokestatic 192, 3) := by decide +kernel
theorem dX12_parse_221 : decode cX12_parse 221 = .ok (.aload_n 0, 1) := by decide +kernel
theorem dX12_parse_222 : decode cX12_parse 222 = .ok (.getfield 29, 3) := by decide +kernel
theorem dX12_parse_225 : decode cX12_parse 225 = .ok (.invokestatic 192, 3) := by decide +kernel
theorem dX12_parse_228 : decode cX12_parse 228 = .ok (.aload_n 0, 1) := by decide +kernel
theorem dX12_parse_229 : decode cX12_parse 229 = .ok (.getfield 32, 3) := by decide +kernel
theorem dX12_parse_232 : decode cX12_parse 232 = .ok (.invokestatic 192, 3) := by decide +kernel
theorem dX12_parse_235 : decode cX12_parse 235 = .ok (.aload_n 0, 1) := by decide +kernel
theorem dX12_parse_236 : decode cX12_parse 236 = .ok (.getfield 35, 3) := by decide +kernel
theorem dX12_parse_239 : decode cX12_parse 239 = .ok (.invokestatic 192, 3) := by decide +kernel
theorem dX12_parse_242 : decode cX12_parse 242 = .ok (.aload_n 0, 1) := by decide +kernel
theorem dX12_parse_243 : decode cX12_parse 243 = .ok (.getfield 38, 3) := by decide +kernel
theorem dX12_parse_246 : decode cX12_parse 246 = .ok (.invokestatic 192, 3) := by decide +kernel
theorem dX12_parse_249 : decode cX12_parse 249 = .ok (.aload_n 0, 1) := by decide +kernel
theorem dX12_parse_250 : decode cX12_parse 250 = .ok (.getfield 41, 3) := by decide +kernel
theorem dX12_parse_253 : decode cX12_parse 253 = .ok (.invokestatic 192, 3) := by decide +kernel
theorem dX12_parse_256 : decode cX12_parse 256 = .ok (.aload_n 0, 1) := by decide +kernel
theorem dX12_parse_257 : decode cX12_parse 257 = .ok (.getfield 44, 3) := by decide +kernel
theorem dX12_parse_260 : decode cX12_parse 260 = .ok (.invokestatic 192, 3) := by decide +kernel
theorem dX12_parse_263 : decode cX12_parse 263 = .ok (.aload_n 0, 1) := by decide +kernel
theorem dX12_parse_264 : decode cX12_parse 264 = .ok (.invokevirtual 84, 3) := by decide +kernel
theorem dX12_parse_267 : decode cX12_parse 267 = .ok (.aload_n 0, 1) := by decide +kernel
theorem dX12_parse_268 : decode cX12_parse 268 = .ok (.iconst 0, 1) := by decide +kernel
theorem dX12_parse_269 : decode cX12_parse 269 = .ok (.putfield 196, 3) := by decide +kernel
theorem dX12_parse_272 : decode cX12_parse 272 = .ok (.aload_n 0, 1) := by decide +kernel
theorem dX12_parse_273 : decode cX12_parse 273 = .ok (.getfield 56, 3) := by decide +kernel
theorem dX12_parse_276 : decode cX12_parse 276 = .ok (.iconst 0, 1) := by decide +kernel
theorem dX12_parse_277 : decode cX12_parse 277 = .ok (.iconst 0, 1) := by decide +kernel
theorem dX12_parse_278 : decode cX12_parse 278 = .ok (.bastore, 1) := by decide +kernel
theorem dX12_parse_279 : decode cX12_parse 279 = .ok (.aload_n 0, 1) := by decide +kernel
theorem dX12_parse_280 : decode cX12_parse 280 = .ok (.getfield 56, 3) := by decide +kernel
theorem dX12_parse_283 : decode cX12_parse 283 = .ok (.iconst 1, 1) := by decide +kernel
theorem dX12_parse_284 : decode cX12_parse 284 = .ok (.iconst 0, 1) := by decide +kernel
theorem dX12_parse_285 : decode cX12_parse 285 = .ok (.bastore, 1) := by decide +kernel
theorem dX12_parse_286 : decode cX12_parse 286 = .ok (.aload_n 0, 1) := by decide +kernel
theorem dX12_parse_287 : decode cX12_parse 287 = .ok (.getfield 13, 3) := by decide +kernel
theorem dX12_parse_290 : decode cX12_parse 290 = .ok (.bipush 6, 2) := by decide +kernel
theorem dX12_parse_292 : decode cX12_parse 292 = .ok (.iaload, 1) := by decide +kernel
theorem dX12_parse_293 : decode cX12_parse 293 = .ok (.ireturn, 1) := by decide +kernel
abbrev LX12_parse_104 (l1 : Int32) (I : MI) (Q : Int32 → MI → Prop) : Prop := WP mX12_parse 286 Rf0 104 [some (.ref 261), some (.int l1), none] [] I (qi Q)
abbrev LX12_parse_137 (l1 t1 : Int32) (I : MI) (Q : Int32 → MI → Prop) : Prop := WP mX12_parse 286 Rf0 137 [some (.ref 261), some (.int l1), none] [.int t1, .ref 261] I (qi Q)
abbrev LX12_parse_151 (l1 : Int32) (I : MI) (Q : Int32 → MI → Prop) : Prop := WP mX12_parse 286 Rf0 151 [some (.ref 261), some (.int l1), none] [] I (qi Q)
abbrev LX12_parse_176 (l1 l2 : Int32) (I : MI) (Q : Int32 → MI → Prop) : Prop := WP mX12_parse 286 Rf0 176 [some (.ref 261), some (.int l1), some (.int l2)] [] I (qi Q)
set_option maxRecDepth 20000 in
theorem rX12_parse_104 {l1 : Int32} {I : MI} {Q : Int32 → MI → Prop} (H : ((¬ (I 261 8) = 0 → (LX12_parse_151 l1 I Q)) ∧ ((I 261 8) = 0 → (((I 261 6) = 0 → (LX12_parse_151 l1 I Q)) ∧ (¬ (I 261 6) = 0 → (Wv mX12_statement [.ref 261] I (fun I1 => ((¬ (I1 261 6) = 59 → (LX12_parse_137 l1 0 I1 Q)) ∧ ((I1 261 6) = 59 → (LX12_parse_137 l1 1 I1 Q)))))))))) : LX12_parse_104 l1 I Q := by
  show WP mX12_parse 286 Rf0 104 [some (.ref 261), some (.int l1), none] [] I (qi Q)
  refine w_aload_n dX12_parse_104 rfl rfl ?_
  refine w_getI dX12_parse_105 fl_12_129 okC12 kd_261 (by decide) (by decide) rfl ?_
  refine w_if_ne (t := 151) dX12_parse_108 (by decide) (fun h => ?_) (fun h => ?_)
  · replace H := H.1 h
    skip
    exact H
  · replace H := H.2 h
    refine w_aload_n dX12_parse_111 rfl rfl ?_
    refine w_getI dX12_parse_112 fl_12_111 okC12 kd_261 (by decide) (by decide) rfl ?_
    refine w_if_eq (t := 151) dX12_parse_115 (by decide) (fun h => ?_) (fun h => ?_)
    · replace H := H.1 h
      skip
      exact H
    · replace H := H.2 h
      refine w_aload_n dX12_parse_118 rfl rfl ?_
      refine w_callV (st := []) (As := []) dX12_parse_119 ml_12_189 okX12_statement kd_261 (by decide) rfl rfl rfl (Nat.le_of_ble_eq_true rfl) (by decide) (Nat.le_of_ble_eq_true rfl) (wc_v H (fun I1 H => ?_))
      refine w_aload_n dX12_parse_122 rfl rfl ?_
      refine w_aload_n dX12_parse_123 rfl rfl ?_
      refine w_getI dX12_parse_124 fl_12_111 okC12 kd_261 (by decide) (by decide) rfl ?_
      refine w_bipush (v := 59) dX12_parse_127 (by decide) ?_
      refine w_icmp_ne (t := 136) dX12_parse_129 (by decide) (fun h => ?_) (fun h => ?_)
      · replace H := H.1 h
        refine w_iconst (v := 0) dX12_parse_136 (by decide) ?_
        skip
        exact H
      · replace H := H.2 h
        refine w_iconst (v := 1) dX12_parse_132 (by decide) ?_
        refine w_goto (t := 137) dX12_parse_133 (by decide) ?_
        skip
        exact H
set_option maxRecDepth 20000 in
theorem rX12_parse_137 {l1 t1 : Int32} {I : MI} {Q : Int32 → MI → Prop} (H : (Wi mX12_must [.ref 261, .int t1, .int 1] I (fun r2 I1 => ((r2 = 0 → (LX12_parse_104 l1 I1 Q)) ∧ (¬ r2 = 0 → (Wv mX12_nextToken [.ref 261] I1 (fun I3 => (LX12_parse_104 l1 I3 Q)))))))) : LX12_parse_137 l1 t1 I Q := by
  show WP mX12_parse 286 Rf0 137 [some (.ref 261), some (.int l1), none] [.int t1, .ref 261] I (qi Q)
  refine w_iconst (v := 1) dX12_parse_137 (by decide) ?_
  refine w_callV (st := []) (As := [.int t1, .int 1]) dX12_parse_138 ml_12_144 okX12_must kd_261 (by decide) rfl rfl rfl (Nat.le_of_ble_eq_true rfl) (by decide) (Nat.le_of_ble_eq_true rfl) (wc_i H (fun r2 I1 H => ?_))
  refine w_if_eq (t := 104) dX12_parse_141 (by decide) (fun h => ?_) (fun h => ?_)
  · replace H := H.1 h
    skip
    exact H
  · replace H := H.2 h
    refine w_aload_n dX12_parse_144 rfl rfl ?_
    refine w_callV (st := []) (As := []) dX12_parse_145 ml_12_148 okX12_nextToken kd_261 (by decide) rfl rfl rfl (Nat.le_of_ble_eq_true rfl) (by decide) (Nat.le_of_ble_eq_true rfl) (wc_v H (fun I3 H => ?_))
    refine w_goto (t := 104) dX12_parse_148 (by decide) ?_
    skip
    exact H
set_option maxRecDepth 20000 in
theorem rX12_parse_151 {l1 : Int32} {I : MI} {Q : Int32 → MI → Prop} (H : (((I 261 8) = 0 → (LX12_parse_176 l1 0 I Q)) ∧ (¬ (I 261 8) = 0 → (Q ((-2) - ((8 * (I 261 9)) + (I 261 8))) I)))) : LX12_parse_151 l1 I Q := by
  show WP mX12_parse 286 Rf0 151 [some (.ref 261), some (.int l1), none] [] I (qi Q)
  refine w_aload_n dX12_parse_151 rfl rfl ?_
  refine w_getI dX12_parse_152 fl_12_129 okC12 kd_261 (by decide) (by decide) rfl ?_
  refine w_if_eq (t := 174) dX12_parse_155 (by decide) (fun h => ?_) (fun h => ?_)
  · replace H := H.1 h
    refine w_iconst (v := 0) dX12_parse_174 (by decide) ?_
    refine w_istore_n (ls' := [some (.ref 261), some (.int l1), some (.int 0)]) dX12_parse_175 rfl (by decide) rfl rfl ?_
    skip
    exact H
  · replace H := H.2 h
    refine w_bipush (v := (-2)) dX12_parse_158 (by decide) ?_
    refine w_bipush (v := 8) dX12_parse_160 (by decide) ?_
    refine w_aload_n dX12_parse_162 rfl rfl ?_
    refine w_getI dX12_parse_163 fl_12_132 okC12 kd_261 (by decide) (by decide) rfl ?_
    refine w_imul dX12_parse_166 ?_
    refine w_aload_n dX12_parse_167 rfl rfl ?_
    refine w_getI dX12_parse_168 fl_12_129 okC12 kd_261 (by decide) (by decide) rfl ?_
    refine w_iadd dX12_parse_171 ?_
    refine w_isub dX12_parse_172 ?_
    exact w_iret dX12_parse_173 rfl ⟨_, rfl, H⟩
set_option maxRecDepth 20000 in
theorem rX12_parse_176 {l1 l2 : Int32} {I : MI} {Q : Int32 → MI → Prop} (H : ((7 ≤ l2 → (Wv mX12_adopt [.ref 265] I (fun I1 => (Wv mX12_adopt [.ref 266] I1 (fun I2 => (Wv mX12_adopt [.ref 267] I2 (fun I3 => (Wv mX12_adopt [.ref 268] I3 (fun I4 => (Wv mX12_adopt [.ref 269] I4 (fun I5 => (Wv mX12_adopt [.ref 270] I5 (fun I6 => (Wv mX12_adopt [.ref 271] I6 (fun I7 => (Wv mX12_adopt [.ref 272] I7 (fun I8 => (Wv mX12_adopt [.ref 273] I8 (fun I9 => (Wv mX12_clearLedger [.ref 261] I9 (fun I10 => (∀ I11 : MI, I11 = up2 I10 261 24 0 → vp_in 0 2 ∧ ∀ I12 : MI, I12 = up2 I11 277 (0 : Int32).toNatClampNeg (vp_nar .boolean 0) → vp_in 1 2 ∧ ∀ I13 : MI, I13 = up2 I12 277 (1 : Int32).toNatClampNeg (vp_nar .boolean 0) → vp_in 6 7 ∧ Q (I13 263 (6 : Int32).toNatClampNeg) I13)))))))))))))))))))))) ∧ (¬ 7 ≤ l2 → (vp_in l2 7 ∧ vp_in l2 7 ∧ ∀ I1 : MI, I1 = up2 I 263 l2.toNatClampNeg (I 264 l2.toNatClampNeg) → LX12_parse_176 l1 (l2 + 1) I1 Q)))) : LX12_parse_176 l1 l2 I Q := by
  show WP mX12_parse 286 Rf0 176 [some (.ref 261), some (.int l1), some (.int l2)] [] I (qi Q)
  refine w_iload_n dX12_parse_176 rfl rfl ?_
  refine w_bipush (v := 7) dX12_parse_177 (by decide) ?_
  refine w_icmp_ge (t := 200) dX12_parse_179 (by decide) (fun h => ?_) (fun h => ?_)
  · replace H := H.1 h
    refine w_aload_n dX12_parse_200 rfl rfl ?_
    refine w_getR dX12_parse_201 fl_12_20 okC12 kd_261 (by decide) (by decide) rfl rf_261_12 ?_
    refine w_callS (st := []) (As := [.ref 265]) dX12_parse_204 ml_12_192 okX12_adopt rfl (Nat.le_of_ble_eq_true rfl) (by decide) (Nat.le_of_ble_eq_true rfl) (wc_v H (fun I1 H => ?_))
    refine w_aload_n dX12_parse_207 rfl rfl ?_
    refine w_getR dX12_parse_208 fl_12_23 okC12 kd_261 (by decide) (by decide) rfl rf_261_13 ?_
    refine w_callS (st := []) (As := [.ref 266]) dX12_parse_211 ml_12_192 okX12_adopt rfl (Nat.le_of_ble_eq_true rfl) (by decide) (Nat.le_of_ble_eq_true rfl) (wc_v H (fun I2 H => ?_))
    refine w_aload_n dX12_parse_214 rfl rfl ?_
    refine w_getR dX12_parse_215 fl_12_26 okC12 kd_261 (by decide) (by decide) rfl rf_261_14 ?_
    refine w_callS (st := []) (As := [.ref 267]) dX12_parse_218 ml_12_192 okX12_adopt rfl (Nat.le_of_ble_eq_true rfl) (by decide) (Nat.le_of_ble_eq_true rfl) (wc_v H (fun I3 H => ?_))
    refine w_aload_n dX12_parse_221 rfl rfl ?_
    refine w_getR dX12_parse_222 fl_12_29 okC12 kd_261 (by decide) (by decide) rfl rf_261_15 ?_
    refine w_callS (st := []) (As := [.ref 268]) dX12_parse_225 ml_12_192 okX12_adopt rfl (Nat.le_of_ble_eq_true rfl) (by decide) (Nat.le_of_ble_eq_true rfl) (wc_v H (fun I4 H => ?_))
    refine w_aload_n dX12_parse_228 rfl rfl ?_
    refine w_getR dX12_parse_229 fl_12_32 okC12 kd_261 (by decide) (by decide) rfl rf_261_16 ?_
    refine w_callS (st := []) (As := [.ref 269]) dX12_parse_232 ml_12_192 okX12_adopt rfl (Nat.le_of_ble_eq_true rfl) (by decide) (Nat.le_of_ble_eq_true rfl) (wc_v H (fun I5 H => ?_))
    refine w_aload_n dX12_parse_235 rfl rfl ?_
    refine w_getR dX12_parse_236 fl_12_35 okC12 kd_261 (by decide) (by decide) rfl rf_261_17 ?_
    refine w_callS (st := []) (As := [.ref 270]) dX12_parse_239 ml_12_192 okX12_adopt rfl (Nat.le_of_ble_eq_true rfl) (by decide) (Nat.le_of_ble_eq_true rfl) (wc_v H (fun I6 H => ?_))
    refine w_aload_n dX12_parse_242 rfl rfl ?_
    refine w_getR dX12_parse_243 fl_12_38 okC12 kd_261 (by decide) (by decide) rfl rf_261_18 ?_
    refine w_callS (st := []) (As := [.ref 271]) dX12_parse_246 ml_12_192 okX12_adopt rfl (Nat.le_of_ble_eq_true rfl) (by decide) (Nat.le_of_ble_eq_true rfl) (wc_v H (fun I7 H => ?_))
    refine w_aload_n dX12_parse_249 rfl rfl ?_
    refine w_getR dX12_parse_250 fl_12_41 okC12 kd_261 (by decide) (by decide) rfl rf_261_19 ?_
    refine w_callS (st := []) (As := [.ref 272]) dX12_parse_253 ml_12_192 okX12_adopt rfl (Nat.le_of_ble_eq_true rfl) (by decide) (Nat.le_of_ble_eq_true rfl) (wc_v H (fun I8 H => ?_))
    refine w_aload_n dX12_parse_256 rfl rfl ?_
    refine w_getR dX12_parse_257 fl_12_44 okC12 kd_261 (by decide) (by decide) rfl rf_261_20 ?_
    refine w_callS (st := []) (As := [.ref 273]) dX12_parse_260 ml_12_192 okX12_adopt rfl (Nat.le_of_ble_eq_true rfl) (by decide) (Nat.le_of_ble_eq_true rfl) (wc_v H (fun I9 H => ?_))
    refine w_aload_n dX12_parse_263 rfl rfl ?_
    refine w_callV (st := []) (As := []) dX12_parse_264 ml_12_84 okX12_clearLedger kd_261 (by decide) rfl rfl rfl (Nat.le_of_ble_eq_true rfl) (by decide) (Nat.le_of_ble_eq_true rfl) (wc_v H (fun I10 H => ?_))
    refine w_aload_n dX12_parse_267 rfl rfl ?_
    refine w_iconst (v := 0) dX12_parse_268 (by decide) ?_
    refine w_putI dX12_parse_269 fl_12_196 okC12 kd_261 (by decide) (by decide) rfl rfl rfl (w_up fun I11 hI => ?_)
    replace H := H I11 hI
    refine w_aload_n dX12_parse_272 rfl rfl ?_
    refine w_getR dX12_parse_273 fl_12_56 okC12 kd_261 (by decide) (by decide) rfl rf_261_26 ?_
    refine w_iconst (v := 0) dX12_parse_276 (by decide) ?_
    refine w_iconst (v := 0) dX12_parse_277 (by decide) ?_
    refine w_zast dX12_parse_278 kd_277 (by decide) H.1 (w_up fun I12 hI => ?_)
    replace H := H.2 I12 hI
    refine w_aload_n dX12_parse_279 rfl rfl ?_
    refine w_getR dX12_parse_280 fl_12_56 okC12 kd_261 (by decide) (by decide) rfl rf_261_26 ?_
    refine w_iconst (v := 1) dX12_parse_283 (by decide) ?_
    refine w_iconst (v := 0) dX12_parse_284 (by decide) ?_
    refine w_zast dX12_parse_285 kd_277 (by decide) H.1 (w_up fun I13 hI => ?_)
    replace H := H.2 I13 hI
    refine w_aload_n dX12_parse_286 rfl rfl ?_
    refine w_getR dX12_parse_287 fl_12_13 okC12 kd_261 (by decide) (by decide) rfl rf_261_10 ?_
    refine w_bipush (v := 6) dX12_parse_290 (by decide) ?_
    refine w_iald dX12_parse_292 kd_263 (by decide) H.1 ?_
    replace H := H.2
    exact w_iret dX12_parse_293 rfl ⟨_, rfl, H⟩
  · replace H := H.2 h
    refine w_aload_n dX12_parse_182 rfl rfl ?_
    refine w_getR dX12_parse_183 fl_12_13 okC12 kd_261 (by decide) (by decide) rfl rf_261_10 ?_
    refine w_iload_n dX12_parse_186 rfl rfl ?_
    refine w_aload_n dX12_parse_187 rfl rfl ?_
    refine w_getR dX12_parse_188 fl_12_17 okC12 kd_261 (by decide) (by decide) rfl rf_261_11 ?_
    refine w_iload_n dX12_parse_191 rfl rfl ?_
    refine w_iald dX12_parse_192 kd_264 (by decide) H.1 ?_
    replace H := H.2
    refine w_iast dX12_parse_193 kd_263 (by decide) H.1 (w_up fun I1 hI => ?_)
    replace H := H.2 I1 hI
    refine w_iinc (v := l2 + 1) (ls' := [some (.ref 261), some (.int l1), some (.int (l2 + 1))]) dX12_parse_194 rfl rfl (by decide) rfl rfl ?_
    refine w_goto (t := 176) dX12_parse_197 (by decide) ?_
    skip
    exact H
set_option maxRecDepth 20000 in
theorem rX12_parse {a1 : Int32} {I : MI} {Q : Int32 → MI → Prop} (H : (∀ I1 : MI, I1 = up2 I 261 0 0 → Wi mX12_within [.long a1.toInt64, .long 0, .long ((I1 261 2).toInt64)] I1 (fun r3 I2 => ((¬ r3 = 0 → (∀ I4 : MI, I4 = up2 I2 261 3 a1 → ∀ I5 : MI, I5 = up2 I4 261 2 0 → ∀ I6 : MI, I6 = up2 I5 261 5 0 → ∀ I7 : MI, I7 = up2 I6 261 8 0 → ∀ I8 : MI, I8 = up2 I7 261 21 0 → vp_in 0 7 ∧ ∀ I9 : MI, I9 = up2 I8 264 (0 : Int32).toNatClampNeg 2 → vp_in 1 7 ∧ ∀ I10 : MI, I10 = up2 I9 264 (1 : Int32).toNatClampNeg 60 → vp_in 2 7 ∧ ∀ I11 : MI, I11 = up2 I10 264 (2 : Int32).toNatClampNeg 300 → vp_in 3 7 ∧ ∀ I12 : MI, I12 = up2 I11 264 (3 : Int32).toNatClampNeg 5 → vp_in 4 7 ∧ ∀ I13 : MI, I13 = up2 I12 264 (4 : Int32).toNatClampNeg 10 → vp_in 5 7 ∧ ∀ I14 : MI, I14 = up2 I13 264 (5 : Int32).toNatClampNeg 0 → vp_in 6 7 ∧ ∀ I15 : MI, I15 = up2 I14 264 (6 : Int32).toNatClampNeg 0 → Wv mX12_nextToken [.ref 261] I15 (fun I16 => (LX12_parse_104 a1 I16 Q)))) ∧ (r3 = 0 → (Q (-1) I2)))))) : Wi mX12_parse [.ref 261, .int a1] I Q := by
  show WP mX12_parse 286 Rf0 0 [some (.ref 261), some (.int a1), none] [] I (qi Q)
  refine w_aload_n dX12_parse_0 rfl rfl ?_
  refine w_iconst (v := 0) dX12_parse_1 (by decide) ?_
  refine w_putI dX12_parse_2 fl_12_87 okC12 kd_261 (by decide) (by decide) rfl rfl rfl (w_up fun I1 hI => ?_)
  replace H := H I1 hI
  refine w_iload_n dX12_parse_5 rfl rfl ?_
  refine w_i2l dX12_parse_6 ?_
  refine w_lconst (v := 0) dX12_parse_7 (by decide) ?_
  refine w_aload_n dX12_parse_8 rfl rfl ?_
  refine w_getI dX12_parse_9 fl_12_91 okC12 kd_261 (by decide) (by decide) rfl ?_
  refine w_i2l dX12_parse_12 ?_
  refine w_callS (st := []) (As := [.long a1.toInt64, .long 0, .long ((I1 261 2).toInt64)]) dX12_parse_13 ml_12_118 okX12_within rfl (Nat.le_of_ble_eq_true rfl) (by decide) (Nat.le_of_ble_eq_true rfl) (wc_i H (fun r3 I2 H => ?_))
  refine w_if_ne (t := 21) dX12_parse_16 (by decide) (fun h => ?_) (fun h => ?_)
  · replace H := H.1 h
    refine w_aload_n dX12_parse_21 rfl rfl ?_
    refine w_iload_n dX12_parse_22 rfl rfl ?_
    refine w_putI dX12_parse_23 fl_12_98 okC12 kd_261 (by decide) (by decide) rfl rfl rfl (w_up fun I4 hI => ?_)
    replace H := H I4 hI
    refine w_aload_n dX12_parse_26 rfl rfl ?_
    refine w_iconst (v := 0) dX12_parse_27 (by decide) ?_
    refine w_putI dX12_parse_28 fl_12_91 okC12 kd_261 (by decide) (by decide) rfl rfl rfl (w_up fun I5 hI => ?_)
    replace H := H I5 hI
    refine w_aload_n dX12_parse_31 rfl rfl ?_
    refine w_iconst (v := 0) dX12_parse_32 (by decide) ?_
    refine w_putI dX12_parse_33 fl_12_101 okC12 kd_261 (by decide) (by decide) rfl rfl rfl (w_up fun I6 hI => ?_)
    replace H := H I6 hI
    refine w_aload_n dX12_parse_36 rfl rfl ?_
    refine w_iconst (v := 0) dX12_parse_37 (by decide) ?_
    refine w_putI dX12_parse_38 fl_12_129 okC12 kd_261 (by decide) (by decide) rfl rfl rfl (w_up fun I7 hI => ?_)
    replace H := H I7 hI
    refine w_aload_n dX12_parse_41 rfl rfl ?_
    refine w_iconst (v := 0) dX12_parse_42 (by decide) ?_
    refine w_putI dX12_parse_43 fl_12_165 okC12 kd_261 (by decide) (by decide) rfl rfl rfl (w_up fun I8 hI => ?_)
    replace H := H I8 hI
    refine w_aload_n dX12_parse_46 rfl rfl ?_
    refine w_getR dX12_parse_47 fl_12_17 okC12 kd_261 (by decide) (by decide) rfl rf_261_11 ?_
    refine w_iconst (v := 0) dX12_parse_50 (by decide) ?_
    refine w_iconst (v := 2) dX12_parse_51 (by decide) ?_
    refine w_iast dX12_parse_52 kd_264 (by decide) H.1 (w_up fun I9 hI => ?_)
    replace H := H.2 I9 hI
    refine w_aload_n dX12_parse_53 rfl rfl ?_
    refine w_getR dX12_parse_54 fl_12_17 okC12 kd_261 (by decide) (by decide) rfl rf_261_11 ?_
    refine w_iconst (v := 1) dX12_parse_57 (by decide) ?_
    refine w_bipush (v := 60) dX12_parse_58 (by decide) ?_
    refine w_iast dX12_parse_60 kd_264 (by decide) H.1 (w_up fun I10 hI => ?_)
    replace H := H.2 I10 hI
    refine w_aload_n dX12_parse_61 rfl rfl ?_
    refine w_getR dX12_parse_62 fl_12_17 okC12 kd_261 (by decide) (by decide) rfl rf_261_11 ?_
    refine w_iconst (v := 2) dX12_parse_65 (by decide) ?_
    refine w_sipush (v := 300) dX12_parse_66 (by decide) ?_
    refine w_iast dX12_parse_69 kd_264 (by decide) H.1 (w_up fun I11 hI => ?_)
    replace H := H.2 I11 hI
    refine w_aload_n dX12_parse_70 rfl rfl ?_
    refine w_getR dX12_parse_71 fl_12_17 okC12 kd_261 (by decide) (by decide) rfl rf_261_11 ?_
    refine w_iconst (v := 3) dX12_parse_74 (by decide) ?_
    refine w_iconst (v := 5) dX12_parse_75 (by decide) ?_
    refine w_iast dX12_parse_76 kd_264 (by decide) H.1 (w_up fun I12 hI => ?_)
    replace H := H.2 I12 hI
    refine w_aload_n dX12_parse_77 rfl rfl ?_
    refine w_getR dX12_parse_78 fl_12_17 okC12 kd_261 (by decide) (by decide) rfl rf_261_11 ?_
    refine w_iconst (v := 4) dX12_parse_81 (by decide) ?_
    refine w_bipush (v := 10) dX12_parse_82 (by decide) ?_
    refine w_iast dX12_parse_84 kd_264 (by decide) H.1 (w_up fun I13 hI => ?_)
    replace H := H.2 I13 hI
    refine w_aload_n dX12_parse_85 rfl rfl ?_
    refine w_getR dX12_parse_86 fl_12_17 okC12 kd_261 (by decide) (by decide) rfl rf_261_11 ?_
    refine w_iconst (v := 5) dX12_parse_89 (by decide) ?_
    refine w_iconst (v := 0) dX12_parse_90 (by decide) ?_
    refine w_iast dX12_parse_91 kd_264 (by decide) H.1 (w_up fun I14 hI => ?_)
    replace H := H.2 I14 hI
    refine w_aload_n dX12_parse_92 rfl rfl ?_
    refine w_getR dX12_parse_93 fl_12_17 okC12 kd_261 (by decide) (by decide) rfl rf_261_11 ?_
    refine w_bipush (v := 6) dX12_parse_96 (by decide) ?_
    refine w_iconst (v := 0) dX12_parse_98 (by decide) ?_
    refine w_iast dX12_parse_99 kd_264 (by decide) H.1 (w_up fun I15 hI => ?_)
    replace H := H.2 I15 hI
    refine w_aload_n dX12_parse_100 rfl rfl ?_
    refine w_callV (st := []) (As := []) dX12_parse_101 ml_12_148 okX12_nextToken kd_261 (by decide) rfl rfl rfl (Nat.le_of_ble_eq_true rfl) (by decide) (Nat.le_of_ble_eq_true rfl) (wc_v H (fun I16 H => ?_))
    skip
    exact H
  · replace H := H.2 h
    refine w_iconst (v := (-1)) dX12_parse_19 (by decide) ?_
    exact w_iret dX12_parse_20 rfl ⟨_, rfl, H⟩
theorem dX12_clearLedger_0 : decode cX12_clearLedger 0 = .ok (.iconst 0, 1) := by decide +kernel
theorem dX12_clearLedger_1 : decode cX12_clearLedger 1 = .ok (.istore_n 1, 1) := by decide +kernel
theorem dX12_clearLedger_2 : decode cX12_clearLedger 2 = .ok (.iload_n 1, 1) := by decide +kernel
theorem dX12_clearLedger_3 : decode cX12_clearLedger 3 = .ok (.sipush 332, 3) := by decide +kernel
theorem dX12_clearLedger_6 : decode cX12_clearLedger 6 = .ok (.if_icmp .ge 16, 3) := by decide +kernel
theorem dX12_clearLedger_9 : decode cX12_clearLedger 9 = .ok (.aload_n 0, 1) := by decide +kernel
theorem dX12_clearLedger_10 : decode cX12_clearLedger 10 = .ok (.getfield 47, 3) := by decide +kernel
theorem dX12_clearLedger_13 : decode cX12_clearLedger 13 = .ok (.iload_n 1, 1) := by decide +kernel
theorem dX12_clearLedger_14 : decode cX12_clearLedger 14 = .ok (.iconst 0, 1) := by decide +kernel
theorem dX12_clearLedger_15 : decode cX12_clearLedger 15 = .ok (.iastore, 1) := by decide +kernel
theorem dX12_clearLedger_16 : decode cX12_clearLedger 16 = .ok (.iinc 1 1, 3) := by decide +kernel
theorem dX12_clearLedger_19 : decode cX12_clearLedger 19 = .ok (.goto (-17), 3) := by decide +kernel
theorem dX12_clearLedger_22 : decode cX12_clearLedger 22 = .ok (.iconst 0, 1) := by decide +kernel
theorem dX12_clearLedger_23 : decode cX12_clearLedger 23 = .ok (.istore_n 1, 1) := by decide +kernel
theorem dX12_clearLedger_24 : decode cX12_clearLedger 24 = .ok (.iload_n 1, 1) := by decide +kernel
theorem dX12_clearLedger_25 : decode cX12_clearLedger 25 = .ok (.bipush 84, 2) := by decide +kernel
theorem dX12_clearLedger_27 : decode cX12_clearLedger 27 = .ok (.if_icmp .ge 23, 3) := by decide +kernel
theorem dX12_clearLedger_30 : decode cX12_clearLedger 30 = .ok (.aload_n 0, 1) := by decide +kernel
theorem dX12_clearLedger_31 : decode cX12_clearLedger 31 = .ok (.getfield 47, 3) := by decide +kernel
theorem dX12_clearLedger_34 : decode cX12_clearLedger 34 = .ok (.iconst 1, 1) := by decide +kernel
theorem dX12_clearLedger_35 : decode cX12_clearLedger 35 = .ok (.iload_n 1, 1) := by decide +kernel
theorem dX12_clearLedger_36 : decode cX12_clearLedger 36 = .ok (.iadd, 1) := by decide +kernel
theorem dX12_clearLedger_37 : decode cX12_clearLedger 37 = .ok (.aload_n 0, 1) := by decide +kernel
theorem dX12_clearLedger_38 : decode cX12_clearLedger 38 = .ok (.getfield 44, 3) := by decide +kernel
theorem dX12_clearLedger_41 : decode cX12_clearLedger 41 = .ok (.iload_n 1, 1) := by decide +kernel
theorem dX12_clearLedger_42 : decode cX12_clearLedger 42 = .ok (.iaload, 1) := by decide +kernel
theorem dX12_clearLedger_43 : decode cX12_clearLedger 43 = .ok (.iastore, 1) := by decide +kernel
theorem dX12_clearLedger_44 : decode cX12_clearLedger 44 = .ok (.iinc 1 1, 3) := by decide +kernel
theorem dX12_clearLedger_47 : decode cX12_clearLedger 47 = .ok (.goto (-23), 3) := by decide +kernel
theorem dX12_clearLedger_50 : decode cX12_clearLedger 50 = .ok (.iconst 0, 1) := by decide +kernel
theorem dX12_clearLedger_51 : decode cX12_clearLedger 51 = .ok (.istore_n 1, 1) := by decide +kernel
theorem dX12_clearLedger_52 : decode cX12_clearLedger 52 = .ok (.iload_n 1, 1) := by decide +kernel
theorem dX12_clearLedger_53 : decode cX12_clearLedger 53 = .ok (.bipush 12, 2) := by decide +kernel
theorem dX12_clearLedger_55 : decode cX12_clearLedger 55 = .ok (.if_icmp .ge 24, 3) := by decide +kernel
theorem dX12_clearLedger_58 : decode cX12_clearLedger 58 = .ok (.aload_n 0, 1) := by decide +kernel
theorem dX12_clearLedger_59 : decode cX12_clearLedger 59 = .ok (.getfield 47, 3) := by decide +kernel
theorem dX12_clearLedger_62 : decode cX12_clearLedger 62 = .ok (.bipush 85, 2) := by decide +kernel
theorem dX12_clearLedger_64 : decode cX12_clearLedger 64 = .ok (.iload_n 1, 1) := by decide +kernel
theorem dX12_clearLedger_65 : decode cX12_clearLedger 65 = .ok (.iadd, 1) := by decide +kernel
theorem dX12_clearLedger_66 : decode cX12_clearLedger 66 = .ok (.aload_n 0, 1) := by decide +kernel
theorem dX12_clearLedger_67 : decode cX12_clearLedger 67 = .ok (.getfield 41, 3) := by decide +kernel
theorem dX12_clearLedger_70 : decode cX12_clearLedger 70 = .ok (.iload_n 1, 1) := by decide +kernel
theorem dX12_clearLedger_71 : decode cX12_clearLedger 71 = .ok (.iaload, 1) := by decide +kernel
theorem dX12_clearLedger_72 : decode cX12_clearLedger 72 = .ok (.iastore, 1) := by decide +kernel
theorem dX12_clearLedger_73 : decode cX12_clearLedger 73 = .ok (.iinc 1 1, 3) := by decide +kernel
theorem dX12_clearLedger_76 : decode cX12_clearLedger 76 = .ok (.goto (-24), 3) := by decide +kernel
theorem dX12_clearLedger_79 : decode cX12_clearLedger 79 = .ok (.iconst 0, 1) := by decide +kernel
theorem dX12_clearLedger_80 : decode cX12_clearLedger 80 = .ok (.istore_n 1, 1) := by decide +kernel
theorem dX12_clearLedger_81 : decode cX12_clearLedger 81 = .ok (.iload_n 1, 1) := by decide +kernel
theorem dX12_clearLedger_82 : decode cX12_clearLedger 82 = .ok (.bipush 18, 2) := by decide +kernel
theorem dX12_clearLedger_84 : decode cX12_clearLedger 84 = .ok (.if_icmp .ge 39, 3) := by decide +kernel
theorem dX12_clearLedger_87 : decode cX12_clearLedger 87 = .ok (.aload_n 0, 1) := by decide +kernel
theorem dX12_clearLedger_88 : decode cX12_clearLedger 88 = .ok (.getfield 47, 3) := by decide +kernel
theorem dX12_clearLedger_91 : decode cX12_clearLedger 91 = .ok (.bipush 97, 2) := by decide +kernel
theorem dX12_clearLedger_93 : decode cX12_clearLedger 93 = .ok (.iload_n 1, 1) := by decide +kernel
theorem dX12_clearLedger_94 : decode cX12_clearLedger 94 = .ok (.iadd, 1) := by decide +kernel
theorem dX12_clearLedger_95 : decode cX12_clearLedger 95 = .ok (.aload_n 0, 1) := by decide +kernel
theorem dX12_clearLedger_96 : decode cX12_clearLedger 96 = .ok (.getfield 29, 3) := by decide +kernel
theorem dX12_clearLedger_99 : decode cX12_clearLedger 99 = .ok (.iload_n 1, 1) := by decide +kernel
theorem dX12_clearLedger_100 : decode cX12_clearLedger 100 = .ok (.iaload, 1) := by decide +kernel
theorem dX12_clearLedger_101 : decode cX12_clearLedger 101 = .ok (.iastore, 1) := by decide +kernel
theorem dX12_clearLedger_102 : decode cX12_clearLedger 102 = .ok (.aload_n 0, 1) := by decide +kernel
theorem dX12_clearLedger_103 : decode cX12_clearLedger 103 = .ok (.getfield 47, 3) := by decide +kernel
theorem dX12_clearLedger_106 : decode cX12_clearLedger 106 = .ok (.bipush 115, 2) := by decide +kernel
theorem dX12_clearLedger_108 : decode cX12_clearLedger 108 = .ok (.iload_n 1, 1) := by decide +kernel
theorem dX12_clearLedger_109 : decode cX12_clearLedger 109 = .ok (.iadd, 1) := by decide +kernel
theorem dX12_clearLedger_110 : decode cX12_clearLedger 110 = .ok (.aload_n 0, 1) := by decide +kernel
theorem dX12_clearLedger_111 : decode cX12_clearLedger 111 = .ok (.getfield 32, 3) := by decide +kernel
theorem dX12_clearLedger_114 : decode cX12_clearLedger 114 = .ok (.iload_n 1, 1) := by decide +kernel
theorem dX12_clearLedger_115 : decode cX12_clearLedger 115 = .ok (.iaload, 1) := by decide +kernel
theorem dX12_clearLedger_116 : decode cX12_clearLedger 116 = .ok (.iastore, 1) := by decide +kernel
theorem dX12_clearLedger_117 : decode cX12_clearLedger 117 = .ok (.iinc 1 1, 3) := by decide +kernel
theorem dX12_clearLedger_120 : decode cX12_clearLedger 120 = .ok (.goto (-39), 3) := by decide +kernel
theorem dX12_clearLedger_123 : decode cX12_clearLedger 123 = .ok (.aload_n 0, 1) := by decide +kernel
theorem dX12_clearLedger_124 : decode cX12_clearLedger 124 = .ok (.getfield 47, 3) := by decide +kernel
theorem dX12_clearLedger_127 : decode cX12_clearLedger 127 = .ok (.sipush 293, 3) := by decide +kernel
theorem dX12_clearLedger_130 : decode cX12_clearLedger 130 = .ok (.bipush (-2), 2) := by decide +kernel
theorem dX12_clearLedger_132 : decode cX12_clearLedger 132 = .ok (.iastore, 1) := by decide +kernel
theorem dX12_clearLedger_133 : decode cX12_clearLedger 133 = .ok (.return_, 1) := by decide +kernel
abbrev LX12_clearLedger_2 (l1 : Int32) (I : MI) (Q : MI → Prop) : Prop := WP mX12_clearLedger 286 Rf0 2 [some (.ref 261), some (.int l1)] [] I (qv Q)
abbrev LX12_clearLedger_24 (l1 : Int32) (I : MI) (Q : MI → Prop) : Prop := WP mX12_clearLedger 286 Rf0 24 [some (.ref 261), some (.int l1)] [] I (qv Q)
abbrev LX12_clearLedger_52 (l1 : Int32) (I : MI) (Q : MI → Prop) : Prop := WP mX12_clearLedger 286 Rf0 52 [some (.ref 261), some (.int l1)] [] I (qv Q)
abbrev LX12_clearLedger_81 (l1 : Int32) (I : MI) (Q : MI → Prop) : Prop := WP mX12_clearLedger 286 Rf0 81 [some (.ref 261), some (.int l1)] [] I (qv Q)
set_option maxRecDepth 20000 in
theorem rX12_clearLedger_2 {l1 : Int32} {I : MI} {Q : MI → Prop} (H : ((332 ≤ l1 → (LX12_clearLedger_24 0 I Q)) ∧ (¬ 332 ≤ l1 → (vp_in l1 332 ∧ ∀ I1 : MI, I1 = up2 I 274 l1.toNatClampNeg 0 → LX12_clearLedger_2 (l1 + 1) I1 Q)))) : LX12_clearLedger_2 l1 I Q := by
  show WP mX12_clearLedger 286 Rf0 2 [some (.ref 261), some (.int l1)] [] I (qv Q)
  refine w_iload_n dX12_clearLedger_2 rfl rfl ?_
  refine w_sipush (v := 332) dX12_clearLedger_3 (by decide) ?_
  refine w_icmp_ge (t := 22) dX12_clearLedger_6 (by decide) (fun h => ?_) (fun h => ?_)
  · replace H := H.1 h
    refine w_iconst (v := 0) dX12_clearLedger_22 (by decide) ?_
    refine w_istore_n (ls' := [some (.ref 261), some (.int 0)]) dX12_clearLedger_23 rfl (by decide) rfl rfl ?_
    skip
    exact H
  · replace H := H.2 h
    refine w_aload_n dX12_clearLedger_9 rfl rfl ?_
    refine w_getR dX12_clearLedger_10 fl_12_47 okC12 kd_261 (by decide) (by decide) rfl rf_261_22 ?_
    refine w_iload_n dX12_clearLedger_13 rfl rfl ?_
    refine w_iconst (v := 0) dX12_clearLedger_14 (by decide) ?_
    refine w_iast dX12_clearLedger_15 kd_274 (by decide) H.1 (w_up fun I1 hI => ?_)
    replace H := H.2 I1 hI
    refine w_iinc (v := l1 + 1) (ls' := [some (.ref 261), some (.int (l1 + 1))]) dX12_clearLedger_16 rfl rfl (by decide) rfl rfl ?_
    refine w_goto (t := 2) dX12_clearLedger_19 (by decide) ?_
    skip
    exact H
set_option maxRecDepth 20000 in
theorem rX12_clearLedger_24 {l1 : Int32} {I : MI} {Q : MI → Prop} (H : ((84 ≤ l1 → (LX12_clearLedger_52 0 I Q)) ∧ (¬ 84 ≤ l1 → (vp_in l1 168 ∧ vp_in (1 + l1) 332 ∧ ∀ I1 : MI, I1 = up2 I 274 (1 + l1).toNatClampNeg (I 273 l1.toNatClampNeg) → LX12_clearLedger_24 (l1 + 1) I1 Q)))) : LX12_clearLedger_24 l1 I Q := by
  show WP mX12_clearLedger 286 Rf0 24 [some (.ref 261), some (.int l1)] [] I (qv Q)
  refine w_iload_n dX12_clearLedger_24 rfl rfl ?_
  refine w_bipush (v := 84) dX12_clearLedger_25 (by decide) ?_
  refine w_icmp_ge (t := 50) dX12_clearLedger_27 (by decide) (fun h => ?_) (fun h => ?_)
  · replace H := H.1 h
    refine w_iconst (v := 0) dX12_clearLedger_50 (by decide) ?_
    refine w_istore_n (ls' := [some (.ref 261), some (.int 0)]) dX12_clearLedger_51 rfl (by decide) rfl rfl ?_
    skip
    exact H
  · replace H := H.2 h
    refine w_aload_n dX12_clearLedger_30 rfl rfl ?_
    refine w_getR dX12_clearLedger_31 fl_12_47 okC12 kd_261 (by decide) (by decide) rfl rf_261_22 ?_
    refine w_iconst (v := 1) dX12_clearLedger_34 (by decide) ?_
    refine w_iload_n dX12_clearLedger_35 rfl rfl ?_
    refine w_iadd dX12_clearLedger_36 ?_
    refine w_aload_n dX12_clearLedger_37 rfl rfl ?_
    refine w_getR dX12_clearLedger_38 fl_12_44 okC12 kd_261 (by decide) (by decide) rfl rf_261_20 ?_
    refine w_iload_n dX12_clearLedger_41 rfl rfl ?_
    refine w_iald dX12_clearLedger_42 kd_273 (by decide) H.1 ?_
    replace H := H.2
    refine w_iast dX12_clearLedger_43 kd_274 (by decide) H.1 (w_up fun I1 hI => ?_)
    replace H := H.2 I1 hI
    refine w_iinc (v := l1 + 1) (ls' := [some (.ref 261), some (.int (l1 + 1))]) dX12_clearLedger_44 rfl rfl (by decide) rfl rfl ?_
    refine w_goto (t := 24) dX12_clearLedger_47 (by decide) ?_
    skip
    exact H
set_option maxRecDepth 20000 in
theorem rX12_clearLedger_52 {l1 : Int32} {I : MI} {Q : MI → Prop} (H : ((12 ≤ l1 → (LX12_clearLedger_81 0 I Q)) ∧ (¬ 12 ≤ l1 → (vp_in l1 24 ∧ vp_in (85 + l1) 332 ∧ ∀ I1 : MI, I1 = up2 I 274 (85 + l1).toNatClampNeg (I 272 l1.toNatClampNeg) → LX12_clearLedger_52 (l1 + 1) I1 Q)))) : LX12_clearLedger_52 l1 I Q := by
  show WP mX12_clearLedger 286 Rf0 52 [some (.ref 261), some (.int l1)] [] I (qv Q)
  refine w_iload_n dX12_clearLedger_52 rfl rfl ?_
  refine w_bipush (v := 12) dX12_clearLedger_53 (by decide) ?_
  refine w_icmp_ge (t := 79) dX12_clearLedger_55 (by decide) (fun h => ?_) (fun h => ?_)
  · replace H := H.1 h
    refine w_iconst (v := 0) dX12_clearLedger_79 (by decide) ?_
    refine w_istore_n (ls' := [some (.ref 261), some (.int 0)]) dX12_clearLedger_80 rfl (by decide) rfl rfl ?_
    skip
    exact H
  · replace H := H.2 h
    refine w_aload_n dX12_clearLedger_58 rfl rfl ?_
    refine w_getR dX12_clearLedger_59 fl_12_47 okC12 kd_261 (by decide) (by decide) rfl rf_261_22 ?_
    refine w_bipush (v := 85) dX12_clearLedger_62 (by decide) ?_
    refine w_iload_n dX12_clearLedger_64 rfl rfl ?_
    refine w_iadd dX12_clearLedger_65 ?_
    refine w_aload_n dX12_clearLedger_66 rfl rfl ?_
    refine w_getR dX12_clearLedger_67 fl_12_41 okC12 kd_261 (by decide) (by decide) rfl rf_261_19 ?_
    refine w_iload_n dX12_clearLedger_70 rfl rfl ?_
    refine w_iald dX12_clearLedger_71 kd_272 (by decide) H.1 ?_
    replace H := H.2
    refine w_iast dX12_clearLedger_72 kd_274 (by decide) H.1 (w_up fun I1 hI => ?_)
    replace H := H.2 I1 hI
    refine w_iinc (v := l1 + 1) (ls' := [some (.ref 261), some (.int (l1 + 1))]) dX12_clearLedger_73 rfl rfl (by decide) rfl rfl ?_
    refine w_goto (t := 52) dX12_clearLedger_76 (by decide) ?_
    skip
    exact H
set_option maxRecDepth 20000 in
theorem rX12_clearLedger_81 {l1 : Int32} {I : MI} {Q : MI → Prop} (H : ((18 ≤ l1 → (vp_in 293 332 ∧ ∀ I1 : MI, I1 = up2 I 274 (293 : Int32).toNatClampNeg (-2) → Q I1)) ∧ (¬ 18 ≤ l1 → (vp_in l1 36 ∧ vp_in (97 + l1) 332 ∧ ∀ I1 : MI, I1 = up2 I 274 (97 + l1).toNatClampNeg (I 268 l1.toNatClampNeg) → vp_in l1 36 ∧ vp_in (115 + l1) 332 ∧ ∀ I2 : MI, I2 = up2 I1 274 (115 + l1).toNatClampNeg (I1 269 l1.toNatClampNeg) → LX12_clearLedger_81 (l1 + 1) I2 Q)))) : LX12_clearLedger_81 l1 I Q := by
  show WP mX12_clearLedger 286 Rf0 81 [some (.ref 261), some (.int l1)] [] I (qv Q)
  refine w_iload_n dX12_clearLedger_81 rfl rfl ?_
  refine w_bipush (v := 18) dX12_clearLedger_82 (by decide) ?_
  refine w_icmp_ge (t := 123) dX12_clearLedger_84 (by decide) (fun h => ?_) (fun h => ?_)
  · replace H := H.1 h
    refine w_aload_n dX12_clearLedger_123 rfl rfl ?_
    refine w_getR dX12_clearLedger_124 fl_12_47 okC12 kd_261 (by decide) (by decide) rfl rf_261_22 ?_
    refine w_sipush (v := 293) dX12_clearLedger_127 (by decide) ?_
    refine w_bipush (v := (-2)) dX12_clearLedger_130 (by decide) ?_
    refine w_iast dX12_clearLedger_132 kd_274 (by decide) H.1 (w_up fun I1 hI => ?_)
    replace H := H.2 I1 hI
    exact w_vret dX12_clearLedger_133 rfl ⟨rfl, H⟩
  · replace H := H.2 h
    refine w_aload_n dX12_clearLedger_87 rfl rfl ?_
    refine w_getR dX12_clearLedger_88 fl_12_47 okC12 kd_261 (by decide) (by decide) rfl rf_261_22 ?_
    refine w_bipush (v := 97) dX12_clearLedger_91 (by decide) ?_
    refine w_iload_n dX12_clearLedger_93 rfl rfl ?_
    refine w_iadd dX12_clearLedger_94 ?_
    refine w_aload_n dX12_clearLedger_95 rfl rfl ?_
    refine w_getR dX12_clearLedger_96 fl_12_29 okC12 kd_261 (by decide) (by decide) rfl rf_261_15 ?_
    refine w_iload_n dX12_clearLedger_99 rfl rfl ?_
    refine w_iald dX12_clearLedger_100 kd_268 (by decide) H.1 ?_
    replace H := H.2
    refine w_iast dX12_clearLedger_101 kd_274 (by decide) H.1 (w_up fun I1 hI => ?_)
    replace H := H.2 I1 hI
    refine w_aload_n dX12_clearLedger_102 rfl rfl ?_
    refine w_getR dX12_clearLedger_103 fl_12_47 okC12 kd_261 (by decide) (by decide) rfl rf_261_22 ?_
    refine w_bipush (v := 115) dX12_clearLedger_106 (by decide) ?_
    refine w_iload_n dX12_clearLedger_108 rfl rfl ?_
    refine w_iadd dX12_clearLedger_109 ?_
    refine w_aload_n dX12_clearLedger_110 rfl rfl ?_
    refine w_getR dX12_clearLedger_111 fl_12_32 okC12 kd_261 (by decide) (by decide) rfl rf_261_16 ?_
    refine w_iload_n dX12_clearLedger_114 rfl rfl ?_
    refine w_iald dX12_clearLedger_115 kd_269 (by decide) H.1 ?_
    replace H := H.2
    refine w_iast dX12_clearLedger_116 kd_274 (by decide) H.1 (w_up fun I2 hI => ?_)
    replace H := H.2 I2 hI
    refine w_iinc (v := l1 + 1) (ls' := [some (.ref 261), some (.int (l1 + 1))]) dX12_clearLedger_117 rfl rfl (by decide) rfl rfl ?_
    refine w_goto (t := 81) dX12_clearLedger_120 (by decide) ?_
    skip
    exact H
set_option maxRecDepth 20000 in
theorem rX12_clearLedger {I : MI} {Q : MI → Prop} (H : (LX12_clearLedger_2 0 I Q)) : Wv mX12_clearLedger [.ref 261] I Q := by
  show WP mX12_clearLedger 286 Rf0 0 [some (.ref 261), none] [] I (qv Q)
  refine w_iconst (v := 0) dX12_clearLedger_0 (by decide) ?_
  refine w_istore_n (ls' := [some (.ref 261), some (.int 0)]) dX12_clearLedger_1 rfl (by decide) rfl rfl ?_
  skip
  exact H
theorem dX12_keepState_0 : decode cX12_keepState 0 = .ok (.aload_n 0, 1) := by decide +kernel
theorem dX12_keepState_1 : decode cX12_keepState 1 = .ok (.getfield 196, 3) := by decide +kernel
theorem dX12_keepState_4 : decode cX12_keepState 4 = .ok (.bipush 12, 2) := by decide +kernel
theorem dX12_keepState_6 : decode cX12_keepState 6 = .ok (.if_icmp .ne 50, 3) := by decide +kernel
theorem dX12_keepState_9 : decode cX12_keepState 9 = .ok (.iconst 0, 1) := by decide +kernel
theorem dX12_keepState_10 : decode cX12_keepState 10 = .ok (.istore_n 1, 1) := by decide +kernel
theorem dX12_keepState_11 : decode cX12_keepState 11 = .ok (.iload_n 1, 1) := by decide +kernel
theorem dX12_keepState_12 : decode cX12_keepState 12 = .ok (.aload_n 0, 1) := by decide +kernel
theorem dX12_keepState_13 : decode cX12_keepState 13 = .ok (.getfield 50, 3) := by decide +kernel
theorem dX12_keepState_16 : decode cX12_keepState 16 = .ok (.arraylength, 1) := by decide +kernel
theorem dX12_keepState_17 : decode cX12_keepState 17 = .ok (.sipush 332, 3) := by decide +kernel
theorem dX12_keepState_20 : decode cX12_keepState 20 = .ok (.isub, 1) := by decide +kernel
theorem dX12_keepState_21 : decode cX12_keepState 21 = .ok (.if_icmp .ge 25, 3) := by decide +kernel
theorem dX12_keepState_24 : decode cX12_keepState 24 = .ok (.aload_n 0, 1) := by decide +kernel
theorem dX12_keepState_25 : decode cX12_keepState 25 = .ok (.getfield 50, 3) := by decide +kernel
theorem dX12_keepState_28 : decode cX12_keepState 28 = .ok (.iload_n 1, 1) := by decide +kernel
theorem dX12_keepState_29 : decode cX12_keepState 29 = .ok (.aload_n 0, 1) := by decide +kernel
theorem dX12_keepState_30 : decode cX12_keepState 30 = .ok (.getfield 50, 3) := by decide +kernel
theorem dX12_keepState_33 : decode cX12_keepState 33 = .ok (.iload_n 1, 1) := by decide +kernel
theorem dX12_keepState_34 : decode cX12_keepState 34 = .ok (.sipush 332, 3) := by decide +kernel
theorem dX12_keepState_37 : decode cX12_keepState 37 = .ok (.iadd, 1) := by decide +kernel
theorem dX12_keepState_38 : decode cX12_keepState 38 = .ok (.iaload, 1) := by decide +kernel
theorem dX12_keepState_39 : decode cX12_keepState 39 = .ok (.iastore, 1) := by decide +kernel
theorem dX12_keepState_40 : decode cX12_keepState 40 = .ok (.iinc 1 1, 3) := by decide +kernel
theorem dX12_keepState_43 : decode cX12_keepState 43 = .ok (.goto (-32), 3) := by decide +kernel
theorem dX12_keepState_46 : decode cX12_keepState 46 = .ok (.aload_n 0, 1) := by decide +kernel
theorem dX12_keepState_47 : decode cX12_keepState 47 = .ok (.dup, 1) := by decide +kernel
theorem dX12_keepState_48 : decode cX12_keepState 48 = .ok (.getfield 196, 3) := by decide +kernel
theorem dX12_keepState_51 : decode cX12_keepState 51 = .ok (.iconst 1, 1) := by decide +kernel
theorem dX12_keepState_52 : decode cX12_keepState 52 = .ok (.isub, 1) := by decide +kernel
theorem dX12_keepState_53 : decode cX12_keepState 53 = .ok (.putfield 196, 3) := by decide +kernel
theorem dX12_keepState_56 : decode cX12_keepState 56 = .ok (.iconst 0, 1) := by decide +kernel
theorem dX12_keepState_57 : decode cX12_keepState 57 = .ok (.istore_n 1, 1) := by decide +kernel
theorem dX12_keepState_58 : decode cX12_keepState 58 = .ok (.iload_n 1, 1) := by decide +kernel
theorem dX12_keepState_59 : decode cX12_keepState 59 = .ok (.sipush 332, 3) := by decide +kernel
theorem dX12_keepState_62 : decode cX12_keepState 62 = .ok (.if_icmp .ge 30, 3) := by decide +kernel
theorem dX12_keepState_65 : decode cX12_keepState 65 = .ok (.aload_n 0, 1) := by decide +kernel
theorem dX12_keepState_66 : decode cX12_keepState 66 = .ok (.getfield 50, 3) := by decide +kernel
theorem dX12_keepState_69 : decode cX12_keepState 69 = .ok (.sipush 332, 3) := by decide +kernel
theorem dX12_keepState_72 : decode cX12_keepState 72 = .ok (.aload_n 0, 1) := by decide +kernel
theorem dX12_keepState_73 : decode cX12_keepState 73 = .ok (.getfield 196, 3) := by decide +kernel
theorem dX12_keepState_76 : decode cX12_keepState 76 = .ok (.imul, 1) := by decide +kernel
theorem dX12_keepState_77 : decode cX12_keepState 77 = .ok (.iload_n 1, 1) := by decide +kernel
theorem dX12_keepState_78 : decode cX12_keepState 78 = .ok (.iadd, 1) := by decide +kernel
theorem dX12_keepState_79 : decode cX12_keepState 79 = .ok (.aload_n 0, 1) := by decide +kernel
theorem dX12_keepState_80 : decode cX12_keepState 80 = .ok (.getfield 47, 3) := by decide +kernel
theorem dX12_keepState_83 : decode cX12_keepState 83 = .ok (.iload_n 1, 1) := by decide +kernel
theorem dX12_keepState_84 : decode cX12_keepState 84 = .ok (.iaload, 1) := by decide +kernel
theorem dX12_keepState_85 : decode cX12_keepState 85 = .ok (.iastore, 1) := by decide +kernel
theorem dX12_keepState_86 : decode cX12_keepState 86 = .ok (.iinc 1 1, 3) := by decide +kernel
theorem dX12_keepState_89 : decode cX12_keepState 89 = .ok (.goto (-31), 3) := by decide +kernel
theorem dX12_keepState_92 : decode cX12_keepState 92 = .ok (.aload_n 0, 1) := by decide +kernel
theorem dX12_keepState_93 : decode cX12_keepState 93 = .ok (.dup, 1) := by decide +kernel
theorem dX12_keepState_94 : decode cX12_keepState 94 = .ok (.getfield 196, 3) := by decide +kernel
theorem dX12_keepState_97 : decode cX12_keepState 97 = .ok (.iconst 1, 1) := by decide +kernel
theorem dX12_keepState_98 : decode cX12_keepState 98 = .ok (.iadd, 1) := by decide +kernel
theorem dX12_keepState_99 : decode cX12_keepState 99 = .ok (.putfield 196, 3) := by decide +kernel
theorem dX12_keepState_102 : decode cX12_keepState 102 = .ok (.return_, 1) := by decide +kernel
abbrev LX12_keepState_11 (l1 : Int32) (I : MI) (Q : MI → Prop) : Prop := WP mX12_keepState 286 Rf0 11 [some (.ref 261), some (.int l1)] [] I (qv Q)
abbrev LX12_keepState_56 (I : MI) (Q : MI → Prop) : Prop := WP mX12_keepState 286 Rf0 56 [some (.ref 261), none] [] I (qv Q)
abbrev LX12_keepState_58 (l1 : Int32) (I : MI) (Q : MI → Prop) : Prop := WP mX12_keepState 286 Rf0 58 [some (.ref 261), some (.int l1)] [] I (qv Q)
set_option maxRecDepth 20000 in
theorem rX12_keepState_11 {l1 : Int32} {I : MI} {Q : MI → Prop} (H : (((3984 - 332) ≤ l1 → (∀ I1 : MI, I1 = up2 I 261 24 ((I 261 24) - 1) → LX12_keepState_56  I1 Q)) ∧ (¬ (3984 - 332) ≤ l1 → (vp_in (l1 + 332) 3984 ∧ vp_in l1 3984 ∧ ∀ I1 : MI, I1 = up2 I 275 l1.toNatClampNeg (I 275 (l1 + 332).toNatClampNeg) → LX12_keepState_11 (l1 + 1) I1 Q)))) : LX12_keepState_11 l1 I Q := by
  show WP mX12_keepState 286 Rf0 11 [some (.ref 261), some (.int l1)] [] I (qv Q)
  refine w_iload_n dX12_keepState_11 rfl rfl ?_
  refine w_aload_n dX12_keepState_12 rfl rfl ?_
  refine w_getR dX12_keepState_13 fl_12_50 okC12 kd_261 (by decide) (by decide) rfl rf_261_23 ?_
  refine w_alen (v := 3984) dX12_keepState_16 kd_275 (by decide) (by decide) ?_
  refine w_sipush (v := 332) dX12_keepState_17 (by decide) ?_
  refine w_isub dX12_keepState_20 ?_
  refine w_icmp_ge (t := 46) dX12_keepState_21 (by decide) (fun h => ?_) (fun h => ?_)
  · replace H := H.1 h
    refine w_aload_n dX12_keepState_46 rfl rfl ?_
    refine w_dup dX12_keepState_47 rfl ?_
    refine w_getI dX12_keepState_48 fl_12_196 okC12 kd_261 (by decide) (by decide) rfl ?_
    refine w_iconst (v := 1) dX12_keepState_51 (by decide) ?_
    refine w_isub dX12_keepState_52 ?_
    refine w_putI dX12_keepState_53 fl_12_196 okC12 kd_261 (by decide) (by decide) rfl rfl rfl (w_up fun I1 hI => ?_)
    replace H := H I1 hI
    refine w_less (ls' := [some (.ref 261), none]) (by simp [lsub]) ?_
    exact H
  · replace H := H.2 h
    refine w_aload_n dX12_keepState_24 rfl rfl ?_
    refine w_getR dX12_keepState_25 fl_12_50 okC12 kd_261 (by decide) (by decide) rfl rf_261_23 ?_
    refine w_iload_n dX12_keepState_28 rfl rfl ?_
    refine w_aload_n dX12_keepState_29 rfl rfl ?_
    refine w_getR dX12_keepState_30 fl_12_50 okC12 kd_261 (by decide) (by decide) rfl rf_261_23 ?_
    refine w_iload_n dX12_keepState_33 rfl rfl ?_
    refine w_sipush (v := 332) dX12_keepState_34 (by decide) ?_
    refine w_iadd dX12_keepState_37 ?_
    refine w_iald dX12_keepState_38 kd_275 (by decide) H.1 ?_
    replace H := H.2
    refine w_iast dX12_keepState_39 kd_275 (by decide) H.1 (w_up fun I1 hI => ?_)
    replace H := H.2 I1 hI
    refine w_iinc (v := l1 + 1) (ls' := [some (.ref 261), some (.int (l1 + 1))]) dX12_keepState_40 rfl rfl (by decide) rfl rfl ?_
    refine w_goto (t := 11) dX12_keepState_43 (by decide) ?_
    skip
    exact H
set_option maxRecDepth 20000 in
theorem rX12_keepState_56 {I : MI} {Q : MI → Prop} (H : (LX12_keepState_58 0 I Q)) : LX12_keepState_56  I Q := by
  show WP mX12_keepState 286 Rf0 56 [some (.ref 261), none] [] I (qv Q)
  refine w_iconst (v := 0) dX12_keepState_56 (by decide) ?_
  refine w_istore_n (ls' := [some (.ref 261), some (.int 0)]) dX12_keepState_57 rfl (by decide) rfl rfl ?_
  skip
  exact H
set_option maxRecDepth 20000 in
theorem rX12_keepState_58 {l1 : Int32} {I : MI} {Q : MI → Prop} (H : ((332 ≤ l1 → (∀ I1 : MI, I1 = up2 I 261 24 ((I 261 24) + 1) → Q I1)) ∧ (¬ 332 ≤ l1 → (vp_in l1 332 ∧ vp_in ((332 * (I 261 24)) + l1) 3984 ∧ ∀ I1 : MI, I1 = up2 I 275 ((332 * (I 261 24)) + l1).toNatClampNeg (I 274 l1.toNatClampNeg) → LX12_keepState_58 (l1 + 1) I1 Q)))) : LX12_keepState_58 l1 I Q := by
  show WP mX12_keepState 286 Rf0 58 [some (.ref 261), some (.int l1)] [] I (qv Q)
  refine w_iload_n dX12_keepState_58 rfl rfl ?_
  refine w_sipush (v := 332) dX12_keepState_59 (by decide) ?_
  refine w_icmp_ge (t := 92) dX12_keepState_62 (by decide) (fun h => ?_) (fun h => ?_)
  · replace H := H.1 h
    refine w_aload_n dX12_keepState_92 rfl rfl ?_
    refine w_dup dX12_keepState_93 rfl ?_
    refine w_getI dX12_keepState_94 fl_12_196 okC12 kd_261 (by decide) (by decide) rfl ?_
    refine w_iconst (v := 1) dX12_keepState_97 (by decide) ?_
    refine w_iadd dX12_keepState_98 ?_
    refine w_putI dX12_keepState_99 fl_12_196 okC12 kd_261 (by decide) (by decide) rfl rfl rfl (w_up fun I1 hI => ?_)
    replace H := H I1 hI
    exact w_vret dX12_keepState_102 rfl ⟨rfl, H⟩
  · replace H := H.2 h
    refine w_aload_n dX12_keepState_65 rfl rfl ?_
    refine w_getR dX12_keepState_66 fl_12_50 okC12 kd_261 (by decide) (by decide) rfl rf_261_23 ?_
    refine w_sipush (v := 332) dX12_keepState_69 (by decide) ?_
    refine w_aload_n dX12_keepState_72 rfl rfl ?_
    refine w_getI dX12_keepState_73 fl_12_196 okC12 kd_261 (by decide) (by decide) rfl ?_
    refine w_imul dX12_keepState_76 ?_
    refine w_iload_n dX12_keepState_77 rfl rfl ?_
    refine w_iadd dX12_keepState_78 ?_
    refine w_aload_n dX12_keepState_79 rfl rfl ?_
    refine w_getR dX12_keepState_80 fl_12_47 okC12 kd_261 (by decide) (by decide) rfl rf_261_22 ?_
    refine w_iload_n dX12_keepState_83 rfl rfl ?_
    refine w_iald dX12_keepState_84 kd_274 (by decide) H.1 ?_
    replace H := H.2
    refine w_iast dX12_keepState_85 kd_275 (by decide) H.1 (w_up fun I1 hI => ?_)
    replace H := H.2 I1 hI
    refine w_iinc (v := l1 + 1) (ls' := [some (.ref 261), some (.int (l1 + 1))]) dX12_keepState_86 rfl rfl (by decide) rfl rfl ?_
    refine w_goto (t := 58) dX12_keepState_89 (by decide) ?_
    skip
    exact H
set_option maxRecDepth 20000 in
theorem rX12_keepState {I : MI} {Q : MI → Prop} (H : ((¬ (I 261 24) = 12 → (LX12_keepState_56  I Q)) ∧ ((I 261 24) = 12 → (LX12_keepState_11 0 I Q)))) : Wv mX12_keepState [.ref 261] I Q := by
  show WP mX12_keepState 286 Rf0 0 [some (.ref 261), none] [] I (qv Q)
  refine w_aload_n dX12_keepState_0 rfl rfl ?_
  refine w_getI dX12_keepState_1 fl_12_196 okC12 kd_261 (by decide) (by decide) rfl ?_
  refine w_bipush (v := 12) dX12_keepState_4 (by decide) ?_
  refine w_icmp_ne (t := 56) dX12_keepState_6 (by decide) (fun h => ?_) (fun h => ?_)
  · replace H := H.1 h
    skip
    exact H
  · replace H := H.2 h
    refine w_iconst (v := 0) dX12_keepState_9 (by decide) ?_
    refine w_istore_n (ls' := [some (.ref 261), some (.int 0)]) dX12_keepState_10 rfl (by decide) rfl rfl ?_
    skip
    exact H
theorem dX12_isHouse_0 : decode cX12_isHouse 0 = .ok (.iload_n 1, 1) := by decide +kernel
theorem dX12_isHouse_1 : decode cX12_isHouse 1 = .ok (.i2l, 1) := by decide +kernel
theorem dX12_isHouse_2 : decode cX12_isHouse 2 = .ok (.lconst 0, 1) := by decide +kernel
theorem dX12_isHouse_3 : decode cX12_isHouse 3 = .ok (.aload_n 0, 1) := by decide +kernel
theorem dX12_isHouse_4 : decode cX12_isHouse 4 = .ok (.getfield 13, 3) := by decide +kernel
theorem dX12_isHouse_7 : decode cX12_isHouse 7 = .ok (.bipush 6, 2) := by decide +kernel
theorem dX12_isHouse_9 : decode cX12_isHouse 9 = .ok (.iaload, 1) := by decide +kernel
theorem dX12_isHouse_10 : decode cX12_isHouse 10 = .ok (.iconst 1, 1) := by decide +kernel
theorem dX12_isHouse_11 : decode cX12_isHouse 11 = .ok (.isub, 1) := by decide +kernel
theorem dX12_isHouse_12 : decode cX12_isHouse 12 = .ok (.i2l, 1) := by decide +kernel
theorem dX12_isHouse_13 : decode cX12_isHouse 13 = .ok (.invokestatic 118, 3) := by decide +kernel
theorem dX12_isHouse_16 : decode cX12_isHouse 16 = .ok (.ireturn, 1) := by decide +kernel
set_option maxRecDepth 20000 in
theorem rX12_isHouse {a1 : Int32} {I : MI} {Q : Int32 → MI → Prop} (H : (vp_in 6 7 ∧ Wi mX12_within [.long a1.toInt64, .long 0, .long (((I 263 (6 : Int32).toNatClampNeg) - 1).toInt64)] I (fun r2 I1 => (narrow .boolean (.int r2) = .int r2 ∧ Q r2 I1)))) : Wi mX12_isHouse [.ref 261, .int a1] I Q := by
  show WP mX12_isHouse 286 Rf0 0 [some (.ref 261), some (.int a1)] [] I (qi Q)
  refine w_iload_n dX12_isHouse_0 rfl rfl ?_
  refine w_i2l dX12_isHouse_1 ?_
  refine w_lconst (v := 0) dX12_isHouse_2 (by decide) ?_
  refine w_aload_n dX12_isHouse_3 rfl rfl ?_
  refine w_getR dX12_isHouse_4 fl_12_13 okC12 kd_261 (by decide) (by decide) rfl rf_261_10 ?_
  refine w_bipush (v := 6) dX12_isHouse_7 (by decide) ?_
  refine w_iald dX12_isHouse_9 kd_263 (by decide) H.1 ?_
  replace H := H.2
  refine w_iconst (v := 1) dX12_isHouse_10 (by decide) ?_
  refine w_isub dX12_isHouse_11 ?_
  refine w_i2l dX12_isHouse_12 ?_
  refine w_callS (st := []) (As := [.long a1.toInt64, .long 0, .long (((I 263 (6 : Int32).toNatClampNeg) - 1).toInt64)]) dX12_isHouse_13 ml_12_118 okX12_within rfl (Nat.le_of_ble_eq_true rfl) (by decide) (Nat.le_of_ble_eq_true rfl) (wc_i H (fun r2 I1 H => ?_))
  exact w_zret dX12_isHouse_16 rfl H.1 ⟨_, rfl, H.2⟩
theorem dX12_isStreet_0 : decode cX12_isStreet 0 = .ok (.iload_n 1, 1) := by decide +kernel
theorem dX12_isStreet_1 : decode cX12_isStreet 1 = .ok (.i2l, 1) := by decide +kernel
theorem dX12_isStreet_2 : decode cX12_isStreet 2 = .ok (.lconst 0, 1) := by decide +kernel
theorem dX12_isStreet_3 : decode cX12_isStreet 3 = .ok (.aload_n 0, 1) := by decide +kernel
theorem dX12_isStreet_4 : decode cX12_isStreet 4 = .ok (.getfield 13, 3) := by decide +kernel
theorem dX12_isStreet_7 : decode cX12_isStreet 7 = .ok (.iconst 5, 1) := by decide +kernel
theorem dX12_isStreet_8 : decode cX12_isStreet 8 = .ok (.iaload, 1) := by decide +kernel
theorem dX12_isStreet_9 : decode cX12_isStreet 9 = .ok (.iconst 1, 1) := by decide +kernel
theorem dX12_isStreet_10 : decode cX12_isStreet 10 = .ok (.isub, 1) := by decide +kernel
theorem dX12_isStreet_11 : decode cX12_isStreet 11 = .ok (.i2l, 1) := by decide +kernel
theorem dX12_isStreet_12 : decode cX12_isStreet 12 = .ok (.invokestatic 118, 3) := by decide +kernel
theorem dX12_isStreet_15 : decode cX12_isStreet 15 = .ok (.ireturn, 1) := by decide +kernel
set_option maxRecDepth 20000 in
theorem rX12_isStreet {a1 : Int32} {I : MI} {Q : Int32 → MI → Prop} (H : (vp_in 5 7 ∧ Wi mX12_within [.long a1.toInt64, .long 0, .long (((I 263 (5 : Int32).toNatClampNeg) - 1).toInt64)] I (fun r2 I1 => (narrow .boolean (.int r2) = .int r2 ∧ Q r2 I1)))) : Wi mX12_isStreet [.ref 261, .int a1] I Q := by
  show WP mX12_isStreet 286 Rf0 0 [some (.ref 261), some (.int a1)] [] I (qi Q)
  refine w_iload_n dX12_isStreet_0 rfl rfl ?_
  refine w_i2l dX12_isStreet_1 ?_
  refine w_lconst (v := 0) dX12_isStreet_2 (by decide) ?_
  refine w_aload_n dX12_isStreet_3 rfl rfl ?_
  refine w_getR dX12_isStreet_4 fl_12_13 okC12 kd_261 (by decide) (by decide) rfl rf_261_10 ?_
  refine w_iconst (v := 5) dX12_isStreet_7 (by decide) ?_
  refine w_iald dX12_isStreet_8 kd_263 (by decide) H.1 ?_
  replace H := H.2
  refine w_iconst (v := 1) dX12_isStreet_9 (by decide) ?_
  refine w_isub dX12_isStreet_10 ?_
  refine w_i2l dX12_isStreet_11 ?_
  refine w_callS (st := []) (As := [.long a1.toInt64, .long 0, .long (((I 263 (5 : Int32).toNatClampNeg) - 1).toInt64)]) dX12_isStreet_12 ml_12_118 okX12_within rfl (Nat.le_of_ble_eq_true rfl) (by decide) (Nat.le_of_ble_eq_true rfl) (wc_i H (fun r2 I1 H => ?_))
  exact w_zret dX12_isStreet_15 rfl H.1 ⟨_, rfl, H.2⟩
theorem dX12_isNode_0 : decode cX12_isNode 0 = .ok (.iload_n 1, 1) := by decide +kernel
theorem dX12_isNode_1 : decode cX12_isNode 1 = .ok (.i2l, 1) := by decide +kernel
theorem dX12_isNode_2 : decode cX12_isNode 2 = .ok (.lconst 0, 1) := by decide +kernel
theorem dX12_isNode_3 : decode cX12_isNode 3 = .ok (.aload_n 0, 1) := by decide +kernel
theorem dX12_isNode_4 : decode cX12_isNode 4 = .ok (.getfield 13, 3) := by decide +kernel
theorem dX12_isNode_7 : decode cX12_isNode 7 = .ok (.iconst 0, 1) := by decide +kernel
theorem dX12_isNode_8 : decode cX12_isNode 8 = .ok (.iaload, 1) := by decide +kernel
theorem dX12_isNode_9 : decode cX12_isNode 9 = .ok (.iconst 1, 1) := by decide +kernel
theorem dX12_isNode_10 : decode cX12_isNode 10 = .ok (.isub, 1) := by decide +kernel
theorem dX12_isNode_11 : decode cX12_isNode 11 = .ok (.i2l, 1) := by decide +kernel
theorem dX12_isNode_12 : decode cX12_isNode 12 = .ok (.invokestatic 118, 3) := by decide +kernel
theorem dX12_isNode_15 : decode cX12_isNode 15 = .ok (.ireturn, 1) := by decide +kernel
set_option maxRecDepth 20000 in
theorem rX12_isNode {a1 : Int32} {I : MI} {Q : Int32 → MI → Prop} (H : (vp_in 0 7 ∧ Wi mX12_within [.long a1.toInt64, .long 0, .long (((I 263 (0 : Int32).toNatClampNeg) - 1).toInt64)] I (fun r2 I1 => (narrow .boolean (.int r2) = .int r2 ∧ Q r2 I1)))) : Wi mX12_isNode [.ref 261, .int a1] I Q := by
  show WP mX12_isNode 286 Rf0 0 [some (.ref 261), some (.int a1)] [] I (qi Q)
  refine w_iload_n dX12_isNode_0 rfl rfl ?_
  refine w_i2l dX12_isNode_1 ?_
  refine w_lconst (v := 0) dX12_isNode_2 (by decide) ?_
  refine w_aload_n dX12_isNode_3 rfl rfl ?_
  refine w_getR dX12_isNode_4 fl_12_13 okC12 kd_261 (by decide) (by decide) rfl rf_261_10 ?_
  refine w_iconst (v := 0) dX12_isNode_7 (by decide) ?_
  refine w_iald dX12_isNode_8 kd_263 (by decide) H.1 ?_
  replace H := H.2
  refine w_iconst (v := 1) dX12_isNode_9 (by decide) ?_
  refine w_isub dX12_isNode_10 ?_
  refine w_i2l dX12_isNode_11 ?_
  refine w_callS (st := []) (As := [.long a1.toInt64, .long 0, .long (((I 263 (0 : Int32).toNatClampNeg) - 1).toInt64)]) dX12_isNode_12 ml_12_118 okX12_within rfl (Nat.le_of_ble_eq_true rfl) (by decide) (Nat.le_of_ble_eq_true rfl) (wc_i H (fun r2 I1 H => ?_))
  exact w_zret dX12_isNode_15 rfl H.1 ⟨_, rfl, H.2⟩
theorem dX12_nodeCount_0 : decode cX12_nodeCount 0 = .ok (.aload_n 0, 1) := by decide +kernel
theorem dX12_nodeCount_1 : decode cX12_nodeCount 1 = .ok (.iconst 0, 1) := by decide +kernel
theorem dX12_nodeCount_2 : decode cX12_nodeCount 2 = .ok (.putfield 87, 3) := by decide +kernel
theorem dX12_nodeCount_5 : decode cX12_nodeCount 5 = .ok (.aload_n 0, 1) := by decide +kernel
theorem dX12_nodeCount_6 : decode cX12_nodeCount 6 = .ok (.getfield 13, 3) := by decide +kernel
theorem dX12_nodeCount_9 : decode cX12_nodeCount 9 = .ok (.iconst 0, 1) := by decide +kernel
theorem dX12_nodeCount_10 : decode cX12_nodeCount 10 = .ok (.iaload, 1) := by decide +kernel
theorem dX12_nodeCount_11 : decode cX12_nodeCount 11 = .ok (.ireturn, 1) := by decide +kernel
set_option maxRecDepth 20000 in
theorem rX12_nodeCount {I : MI} {Q : Int32 → MI → Prop} (H : (∀ I1 : MI, I1 = up2 I 261 0 0 → vp_in 0 7 ∧ Q (I1 263 (0 : Int32).toNatClampNeg) I1)) : Wi mX12_nodeCount [.ref 261] I Q := by
  show WP mX12_nodeCount 286 Rf0 0 [some (.ref 261)] [] I (qi Q)
  refine w_aload_n dX12_nodeCount_0 rfl rfl ?_
  refine w_iconst (v := 0) dX12_nodeCount_1 (by decide) ?_
  refine w_putI dX12_nodeCount_2 fl_12_87 okC12 kd_261 (by decide) (by decide) rfl rfl rfl (w_up fun I1 hI => ?_)
  replace H := H I1 hI
  refine w_aload_n dX12_nodeCount_5 rfl rfl ?_
  refine w_getR dX12_nodeCount_6 fl_12_13 okC12 kd_261 (by decide) (by decide) rfl rf_261_10 ?_
  refine w_iconst (v := 0) dX12_nodeCount_9 (by decide) ?_
  refine w_iald dX12_nodeCount_10 kd_263 (by decide) H.1 ?_
  replace H := H.2
  exact w_iret dX12_nodeCount_11 rfl ⟨_, rfl, H⟩
theorem dX12_streetCount_0 : decode cX12_streetCount 0 = .ok (.aload_n 0, 1) := by decide +kernel
theorem dX12_streetCount_1 : decode cX12_streetCount 1 = .ok (.iconst 0, 1) := by decide +kernel
theorem dX12_streetCount_2 : decode cX12_streetCount 2 = .ok (.putfield 87, 3) := by decide +kernel
theorem dX12_streetCount_5 : decode cX12_streetCount 5 = .ok (.aload_n 0, 1) := by decide +kernel
theorem dX12_streetCount_6 : decode cX12_streetCount 6 = .ok (.getfield 13, 3) := by decide +kernel
theorem dX12_streetCount_9 : decode cX12_streetCount 9 = .ok (.iconst 5, 1) := by decide +kernel
theorem dX12_streetCount_10 : decode cX12_streetCount 10 = .ok (.iaload, 1) := by decide +kernel
theorem dX12_streetCount_11 : decode cX12_streetCount 11 = .ok (.ireturn, 1) := by decide +kernel
set_option maxRecDepth 20000 in
theorem rX12_streetCount {I : MI} {Q : Int32 → MI → Prop} (H : (∀ I1 : MI, I1 = up2 I 261 0 0 → vp_in 5 7 ∧ Q (I1 263 (5 : Int32).toNatClampNeg) I1)) : Wi mX12_streetCount [.ref 261] I Q := by
  show WP mX12_streetCount 286 Rf0 0 [some (.ref 261)] [] I (qi Q)
  refine w_aload_n dX12_streetCount_0 rfl rfl ?_
  refine w_iconst (v := 0) dX12_streetCount_1 (by decide) ?_
  refine w_putI dX12_streetCount_2 fl_12_87 okC12 kd_261 (by decide) (by decide) rfl rfl rfl (w_up fun I1 hI => ?_)
  replace H := H I1 hI
  refine w_aload_n dX12_streetCount_5 rfl rfl ?_
  refine w_getR dX12_streetCount_6 fl_12_13 okC12 kd_261 (by decide) (by decide) rfl rf_261_10 ?_
  refine w_iconst (v := 5) dX12_streetCount_9 (by decide) ?_
  refine w_iald dX12_streetCount_10 kd_263 (by decide) H.1 ?_
  replace H := H.2
  exact w_iret dX12_streetCount_11 rfl ⟨_, rfl, H⟩
theorem dX12_houseCount_0 : decode cX12_houseCount 0 = .ok (.aload_n 0, 1) := by decide +kernel
theorem dX12_houseCount_1 : decode cX12_houseCount 1 = .ok (.iconst 0, 1) := by decide +kernel
theorem dX12_houseCount_2 : decode cX12_houseCount 2 = .ok (.putfield 87, 3) := by decide +kernel
theorem dX12_houseCount_5 : decode cX12_houseCount 5 = .ok (.aload_n 0, 1) := by decide +kernel
theorem dX12_houseCount_6 : decode cX12_houseCount 6 = .ok (.getfield 13, 3) := by decide +kernel
theorem dX12_houseCount_9 : decode cX12_houseCount 9 = .ok (.bipush 6, 2) := by decide +kernel
theorem dX12_houseCount_11 : decode cX12_houseCount 11 = .ok (.iaload, 1) := by decide +kernel
theorem dX12_houseCount_12 : decode cX12_houseCount 12 = .ok (.ireturn, 1) := by decide +kernel
set_option maxRecDepth 20000 in
theorem rX12_houseCount {I : MI} {Q : Int32 → MI → Prop} (H : (∀ I1 : MI, I1 = up2 I 261 0 0 → vp_in 6 7 ∧ Q (I1 263 (6 : Int32).toNatClampNeg) I1)) : Wi mX12_houseCount [.ref 261] I Q := by
  show WP mX12_houseCount 286 Rf0 0 [some (.ref 261)] [] I (qi Q)
  refine w_aload_n dX12_houseCount_0 rfl rfl ?_
  refine w_iconst (v := 0) dX12_houseCount_1 (by decide) ?_
  refine w_putI dX12_houseCount_2 fl_12_87 okC12 kd_261 (by decide) (by decide) rfl rfl rfl (w_up fun I1 hI => ?_)
  replace H := H I1 hI
  refine w_aload_n dX12_houseCount_5 rfl rfl ?_
  refine w_getR dX12_houseCount_6 fl_12_13 okC12 kd_261 (by decide) (by decide) rfl rf_261_10 ?_
  refine w_bipush (v := 6) dX12_houseCount_9 (by decide) ?_
  refine w_iald dX12_houseCount_11 kd_263 (by decide) H.1 ?_
  replace H := H.2
  exact w_iret dX12_houseCount_12 rfl ⟨_, rfl, H⟩
theorem dX12_capacity_0 : decode cX12_capacity 0 = .ok (.aload_n 0, 1) := by decide +kernel
theorem dX12_capacity_1 : decode cX12_capacity 1 = .ok (.iconst 0, 1) := by decide +kernel
theorem dX12_capacity_2 : decode cX12_capacity 2 = .ok (.putfield 87, 3) := by decide +kernel
theorem dX12_capacity_5 : decode cX12_capacity 5 = .ok (.aload_n 0, 1) := by decide +kernel
theorem dX12_capacity_6 : decode cX12_capacity 6 = .ok (.getfield 13, 3) := by decide +kernel
theorem dX12_capacity_9 : decode cX12_capacity 9 = .ok (.iconst 1, 1) := by decide +kernel
theorem dX12_capacity_10 : decode cX12_capacity 10 = .ok (.iaload, 1) := by decide +kernel
theorem dX12_capacity_11 : decode cX12_capacity 11 = .ok (.ireturn, 1) := by decide +kernel
set_option maxRecDepth 20000 in
theorem rX12_capacity {I : MI} {Q : Int32 → MI → Prop} (H : (∀ I1 : MI, I1 = up2 I 261 0 0 → vp_in 1 7 ∧ Q (I1 263 (1 : Int32).toNatClampNeg) I1)) : Wi mX12_capacity [.ref 261] I Q := by
  show WP mX12_capacity 286 Rf0 0 [some (.ref 261)] [] I (qi Q)
  refine w_aload_n dX12_capacity_0 rfl rfl ?_
  refine w_iconst (v := 0) dX12_capacity_1 (by decide) ?_
  refine w_putI dX12_capacity_2 fl_12_87 okC12 kd_261 (by decide) (by decide) rfl rfl rfl (w_up fun I1 hI => ?_)
  replace H := H I1 hI
  refine w_aload_n dX12_capacity_5 rfl rfl ?_
  refine w_getR dX12_capacity_6 fl_12_13 okC12 kd_261 (by decide) (by decide) rfl rf_261_10 ?_
  refine w_iconst (v := 1) dX12_capacity_9 (by decide) ?_
  refine w_iald dX12_capacity_10 kd_263 (by decide) H.1 ?_
  replace H := H.2
  exact w_iret dX12_capacity_11 rfl ⟨_, rfl, H⟩
theorem dX12_day_0 : decode cX12_day 0 = .ok (.aload_n 0, 1) := by decide +kernel
theorem dX12_day_1 : decode cX12_day 1 = .ok (.iconst 0, 1) := by decide +kernel
theorem dX12_day_2 : decode cX12_day 2 = .ok (.putfield 87, 3) := by decide +kernel
theorem dX12_day_5 : decode cX12_day 5 = .ok (.aload_n 0, 1) := by decide +kernel
theorem dX12_day_6 : decode cX12_day 6 = .ok (.getfield 47, 3) := by decide +kernel
theorem dX12_day_9 : decode cX12_day 9 = .ok (.iconst 0, 1) := by decide +kernel
theorem dX12_day_10 : decode cX12_day 10 = .ok (.iaload, 1) := by decide +kernel
theorem dX12_day_11 : decode cX12_day 11 = .ok (.ireturn, 1) := by decide +kernel
set_option maxRecDepth 20000 in
theorem rX12_day {I : MI} {Q : Int32 → MI → Prop} (H : (∀ I1 : MI, I1 = up2 I 261 0 0 → vp_in 0 332 ∧ Q (I1 274 (0 : Int32).toNatClampNeg) I1)) : Wi mX12_day [.ref 261] I Q := by
  show WP mX12_day 286 Rf0 0 [some (.ref 261)] [] I (qi Q)
  refine w_aload_n dX12_day_0 rfl rfl ?_
  refine w_iconst (v := 0) dX12_day_1 (by decide) ?_
  refine w_putI dX12_day_2 fl_12_87 okC12 kd_261 (by decide) (by decide) rfl rfl rfl (w_up fun I1 hI => ?_)
  replace H := H I1 hI
  refine w_aload_n dX12_day_5 rfl rfl ?_
  refine w_getR dX12_day_6 fl_12_47 okC12 kd_261 (by decide) (by decide) rfl rf_261_22 ?_
  refine w_iconst (v := 0) dX12_day_9 (by decide) ?_
  refine w_iald dX12_day_10 kd_274 (by decide) H.1 ?_
  replace H := H.2
  exact w_iret dX12_day_11 rfl ⟨_, rfl, H⟩
theorem dX12_houseNode_0 : decode cX12_houseNode 0 = .ok (.aload_n 0, 1) := by decide +kernel
theorem dX12_houseNode_1 : decode cX12_houseNode 1 = .ok (.iconst 0, 1) := by decide +kernel
theorem dX12_houseNode_2 : decode cX12_houseNode 2 = .ok (.putfield 87, 3) := by decide +kernel
theorem dX12_houseNode_5 : decode cX12_houseNode 5 = .ok (.aload_n 0, 1) := by decide +kernel
theorem dX12_houseNode_6 : decode cX12_houseNode 6 = .ok (.iload_n 1, 1) := by decide +kernel
theorem dX12_houseNode_7 : decode cX12_houseNode 7 = .ok (.invokevirtual 199, 3) := by decide +kernel
theorem dX12_houseNode_10 : decode cX12_houseNode 10 = .ok (.ifCond .eq 12, 3) := by decide +kernel
theorem dX12_houseNode_13 : decode cX12_houseNode 13 = .ok (.aload_n 0, 1) := by decide +kernel
theorem dX12_houseNode_14 : decode cX12_houseNode 14 = .ok (.getfield 35, 3) := by decide +kernel
theorem dX12_houseNode_17 : decode cX12_houseNode 17 = .ok (.iload_n 1, 1) := by decide +kernel
theorem dX12_houseNode_18 : decode cX12_houseNode 18 = .ok (.iaload, 1) := by decide +kernel
theorem dX12_houseNode_19 : decode cX12_houseNode 19 = .ok (.goto 4, 3) := by decide +kernel
theorem dX12_houseNode_22 : decode cX12_houseNode 22 = .ok (.iconst (-1), 1) := by decide +kernel
theorem dX12_houseNode_23 : decode cX12_houseNode 23 = .ok (.ireturn, 1) := by decide +kernel
set_option maxRecDepth 20000 in
theorem rX12_houseNode {a1 : Int32} {I : MI} {Q : Int32 → MI → Prop} (H : (∀ I1 : MI, I1 = up2 I 261 0 0 → Wi mX12_isHouse [.ref 261, .int a1] I1 (fun r3 I2 => ((r3 = 0 → (Q (-1) I2)) ∧ (¬ r3 = 0 → (vp_in a1 24 ∧ Q (I2 270 a1.toNatClampNeg) I2)))))) : Wi mX12_houseNode [.ref 261, .int a1] I Q := by
  show WP mX12_houseNode 286 Rf0 0 [some (.ref 261), some (.int a1)] [] I (qi Q)
  refine w_aload_n dX12_houseNode_0 rfl rfl ?_
  refine w_iconst (v := 0) dX12_houseNode_1 (by decide) ?_
  refine w_putI dX12_houseNode_2 fl_12_87 okC12 kd_261 (by decide) (by decide) rfl rfl rfl (w_up fun I1 hI => ?_)
  replace H := H I1 hI
  refine w_aload_n dX12_houseNode_5 rfl rfl ?_
  refine w_iload_n dX12_houseNode_6 rfl rfl ?_
  refine w_callV (st := []) (As := [.int a1]) dX12_houseNode_7 ml_12_199 okX12_isHouse kd_261 (by decide) rfl rfl rfl (Nat.le_of_ble_eq_true rfl) (by decide) (Nat.le_of_ble_eq_true rfl) (wc_i H (fun r3 I2 H => ?_))
  refine w_if_eq (t := 22) dX12_houseNode_10 (by decide) (fun h => ?_) (fun h => ?_)
  · replace H := H.1 h
    refine w_iconst (v := (-1)) dX12_houseNode_22 (by decide) ?_
    exact w_iret dX12_houseNode_23 rfl ⟨_, rfl, H⟩
  · replace H := H.2 h
    refine w_aload_n dX12_houseNode_13 rfl rfl ?_
    refine w_getR dX12_houseNode_14 fl_12_35 okC12 kd_261 (by decide) (by decide) rfl rf_261_17 ?_
    refine w_iload_n dX12_houseNode_17 rfl rfl ?_
    refine w_iald dX12_houseNode_18 kd_270 (by decide) H.1 ?_
    replace H := H.2
    refine w_goto (t := 23) dX12_houseNode_19 (by decide) ?_
    exact w_iret dX12_houseNode_23 rfl ⟨_, rfl, H⟩
theorem dX12_order_0 : decode cX12_order 0 = .ok (.aload_n 0, 1) := by decide +kernel
theorem dX12_order_1 : decode cX12_order 1 = .ok (.iconst 0, 1) := by decide +kernel
theorem dX12_order_2 : decode cX12_order 2 = .ok (.putfield 87, 3) := by decide +kernel
theorem dX12_order_5 : decode cX12_order 5 = .ok (.aload_n 0, 1) := by decide +kernel
theorem dX12_order_6 : decode cX12_order 6 = .ok (.iload_n 1, 1) := by decide +kernel
theorem dX12_order_7 : decode cX12_order 7 = .ok (.invokevirtual 199, 3) := by decide +kernel
theorem dX12_order_10 : decode cX12_order 10 = .ok (.ifCond .eq 31, 3) := by decide +kernel
theorem dX12_order_13 : decode cX12_order 13 = .ok (.iload_n 2, 1) := by decide +kernel
theorem dX12_order_14 : decode cX12_order 14 = .ok (.i2l, 1) := by decide +kernel
theorem dX12_order_15 : decode cX12_order 15 = .ok (.lconst 0, 1) := by decide +kernel
theorem dX12_order_16 : decode cX12_order 16 = .ok (.ldc2_w 203, 3) := by decide +kernel
theorem dX12_order_19 : decode cX12_order 19 = .ok (.invokestatic 118, 3) := by decide +kernel
theorem dX12_order_22 : decode cX12_order 22 = .ok (.ifCond .eq 19, 3) := by decide +kernel
theorem dX12_order_25 : decode cX12_order 25 = .ok (.aload_n 0, 1) := by decide +kernel
theorem dX12_order_26 : decode cX12_order 26 = .ok (.getfield 47, 3) := by decide +kernel
theorem dX12_order_29 : decode cX12_order 29 = .ok (.iconst 1, 1) := by decide +kernel
theorem dX12_order_30 : decode cX12_order 30 = .ok (.bipush 7, 2) := by decide +kernel
theorem dX12_order_32 : decode cX12_order 32 = .ok (.iload_n 1, 1) := by decide +kernel
theorem dX12_order_33 : decode cX12_order 33 = .ok (.imul, 1) := by decide +kernel
theorem dX12_order_34 : decode cX12_order 34 = .ok (.iadd, 1) := by decide +kernel
theorem dX12_order_35 : decode cX12_order 35 = .ok (.iload_n 2, 1) := by decide +kernel
theorem dX12_order_36 : decode cX12_order 36 = .ok (.iadd, 1) := by decide +kernel
theorem dX12_order_37 : decode cX12_order 37 = .ok (.iaload, 1) := by decide +kernel
theorem dX12_order_38 : decode cX12_order 38 = .ok (.goto 4, 3) := by decide +kernel
theorem dX12_order_41 : decode cX12_order 41 = .ok (.iconst (-1), 1) := by decide +kernel
theorem dX12_order_42 : decode cX12_order 42 = .ok (.ireturn, 1) := by decide +kernel
set_option maxRecDepth 20000 in
theorem rX12_order {a1 a2 : Int32} {I : MI} {Q : Int32 → MI → Prop} (H : (∀ I1 : MI, I1 = up2 I 261 0 0 → Wi mX12_isHouse [.ref 261, .int a1] I1 (fun r3 I2 => ((r3 = 0 → (Q (-1) I2)) ∧ (¬ r3 = 0 → (Wi mX12_within [.long a2.toInt64, .long 0, .long 6] I2 (fun r5 I4 => ((r5 = 0 → (Q (-1) I4)) ∧ (¬ r5 = 0 → (vp_in ((1 + (7 * a1)) + a2) 332 ∧ Q (I4 274 ((1 + (7 * a1)) + a2).toNatClampNeg) I4)))))))))) : Wi mX12_order [.ref 261, .int a1, .int a2] I Q := by
  show WP mX12_order 286 Rf0 0 [some (.ref 261), some (.int a1), some (.int a2)] [] I (qi Q)
  refine w_aload_n dX12_order_0 rfl rfl ?_
  refine w_iconst (v := 0) dX12_order_1 (by decide) ?_
  refine w_putI dX12_order_2 fl_12_87 okC12 kd_261 (by decide) (by decide) rfl rfl rfl (w_up fun I1 hI => ?_)
  replace H := H I1 hI
  refine w_aload_n dX12_order_5 rfl rfl ?_
  refine w_iload_n dX12_order_6 rfl rfl ?_
  refine w_callV (st := []) (As := [.int a1]) dX12_order_7 ml_12_199 okX12_isHouse kd_261 (by decide) rfl rfl rfl (Nat.le_of_ble_eq_true rfl) (by decide) (Nat.le_of_ble_eq_true rfl) (wc_i H (fun r3 I2 H => ?_))
  refine w_if_eq (t := 41) dX12_order_10 (by decide) (fun h => ?_) (fun h => ?_)
  · replace H := H.1 h
    refine w_iconst (v := (-1)) dX12_order_41 (by decide) ?_
    exact w_iret dX12_order_42 rfl ⟨_, rfl, H⟩
  · replace H := H.2 h
    refine w_iload_n dX12_order_13 rfl rfl ?_
    refine w_i2l dX12_order_14 ?_
    refine w_lconst (v := 0) dX12_order_15 (by decide) ?_
    refine w_ldc2 (v := 6) dX12_order_16 kl_12_203 ?_
    refine w_callS (st := []) (As := [.long a2.toInt64, .long 0, .long 6]) dX12_order_19 ml_12_118 okX12_within rfl (Nat.le_of_ble_eq_true rfl) (by decide) (Nat.le_of_ble_eq_true rfl) (wc_i H (fun r5 I4 H => ?_))
    refine w_if_eq (t := 41) dX12_order_22 (by decide) (fun h => ?_) (fun h => ?_)
    · replace H := H.1 h
      refine w_iconst (v := (-1)) dX12_order_41 (by decide) ?_
      exact w_iret dX12_order_42 rfl ⟨_, rfl, H⟩
    · replace H := H.2 h
      refine w_aload_n dX12_order_25 rfl rfl ?_
      refine w_getR dX12_order_26 fl_12_47 okC12 kd_261 (by decide) (by decide) rfl rf_261_22 ?_
      refine w_iconst (v := 1) dX12_order_29 (by decide) ?_
      refine w_bipush (v := 7) dX12_order_30 (by decide) ?_
      refine w_iload_n dX12_order_32 rfl rfl ?_
      refine w_imul dX12_order_33 ?_
      refine w_iadd dX12_order_34 ?_
      refine w_iload_n dX12_order_35 rfl rfl ?_
      refine w_iadd dX12_order_36 ?_
      refine w_iald dX12_order_37 kd_274 (by decide) H.1 ?_
      replace H := H.2
      refine w_goto (t := 42) dX12_order_38 (by decide) ?_
      exact w_iret dX12_order_42 rfl ⟨_, rfl, H⟩
theorem dX12_through_0 : decode cX12_through 0 = .ok (.aload_n 0, 1) := by decide +kernel
theorem dX12_through_1 : decode cX12_through 1 = .ok (.getfield 47, 3) := by decide +kernel
theorem dX12_through_4 : decode cX12_through 4 = .ok (.bipush 97, 2) := by decide +kernel
theorem dX12_through_6 : decode cX12_through 6 = .ok (.iload_n 1, 1) := by decide +kernel
theorem dX12_through_7 : decode cX12_through 7 = .ok (.iadd, 1) := by decide +kernel
theorem dX12_through_8 : decode cX12_through 8 = .ok (.iaload, 1) := by decide +kernel
theorem dX12_through_9 : decode cX12_through 9 = .ok (.istore_n 3, 1) := by decide +kernel
theorem dX12_through_10 : decode cX12_through 10 = .ok (.iload_n 3, 1) := by decide +kernel
theorem dX12_through_11 : decode cX12_through 11 = .ok (.ifCond .ge 12, 3) := by decide +kernel
theorem dX12_through_14 : decode cX12_through 14 = .ok (.iload_n 2, 1) := by decide +kernel
theorem dX12_through_15 : decode cX12_through 15 = .ok (.aload_n 0, 1) := by decide +kernel
theorem dX12_through_16 : decode cX12_through 16 = .ok (.getfield 26, 3) := by decide +kernel
theorem dX12_through_19 : decode cX12_through 19 = .ok (.iload_n 1, 1) := by decide +kernel
theorem dX12_through_20 : decode cX12_through 20 = .ok (.iaload, 1) := by decide +kernel
theorem dX12_through_21 : decode cX12_through 21 = .ok (.iadd, 1) := by decide +kernel
theorem dX12_through_22 : decode cX12_through 22 = .ok (.ireturn, 1) := by decide +kernel
theorem dX12_through_23 : decode cX12_through 23 = .ok (.iload_n 2, 1) := by decide +kernel
theorem dX12_through_24 : decode cX12_through 24 = .ok (.aload_n 0, 1) := by decide +kernel
theorem dX12_through_25 : decode cX12_through 25 = .ok (.getfield 47, 3) := by decide +kernel
theorem dX12_through_28 : decode cX12_through 28 = .ok (.bipush 115, 2) := by decide +kernel
theorem dX12_through_30 : decode cX12_through 30 = .ok (.iload_n 1, 1) := by decide +kernel
theorem dX12_through_31 : decode cX12_through 31 = .ok (.iadd, 1) := by decide +kernel
theorem dX12_through_32 : decode cX12_through 32 = .ok (.iaload, 1) := by decide +kernel
theorem dX12_through_33 : decode cX12_through 33 = .ok (.if_icmp .lt 8, 3) := by decide +kernel
theorem dX12_through_36 : decode cX12_through 36 = .ok (.ldc 205, 2) := by decide +kernel
theorem dX12_through_38 : decode cX12_through 38 = .ok (.goto 20, 3) := by decide +kernel
theorem dX12_through_41 : decode cX12_through 41 = .ok (.iload_n 2, 1) := by decide +kernel
theorem dX12_through_42 : decode cX12_through 42 = .ok (.iload_n 3, 1) := by decide +kernel
theorem dX12_through_43 : decode cX12_through 43 = .ok (.if_icmp .ge 7, 3) := by decide +kernel
theorem dX12_through_46 : decode cX12_through 46 = .ok (.iload_n 3, 1) := by decide +kernel
theorem dX12_through_47 : decode cX12_through 47 = .ok (.goto 4, 3) := by decide +kernel
theorem dX12_through_50 : decode cX12_through 50 = .ok (.iload_n 2, 1) := by decide +kernel
theorem dX12_through_51 : decode cX12_through 51 = .ok (.aload_n 0, 1) := by decide +kernel
theorem dX12_through_52 : decode cX12_through 52 = .ok (.getfield 26, 3) := by decide +kernel
theorem dX12_through_55 : decode cX12_through 55 = .ok (.iload_n 1, 1) := by decide +kernel
theorem dX12_through_56 : decode cX12_through 56 = .ok (.iaload, 1) := by decide +kernel
theorem dX12_through_57 : decode cX12_through 57 = .ok (.iadd, 1) := by decide +kernel
theorem dX12_through_58 : decode cX12_through 58 = .ok (.ireturn, 1) := by decide +kernel
abbrev LX12_through_51 (l1 l2 l3 t0 : Int32) (I : MI) (Q : Int32 → MI → Prop) : Prop := WP mX12_through 286 Rf0 51 [some (.ref 261), some (.int l1), some (.int l2), some (.int l3)] [.int t0] I (qi Q)
set_option maxRecDepth 20000 in
theorem rX12_through_51 {l1 l2 l3 t0 : Int32} {I : MI} {Q : Int32 → MI → Prop} (H : (vp_in l1 36 ∧ Q (t0 + (I 267 l1.toNatClampNeg)) I)) : LX12_through_51 l1 l2 l3 t0 I Q := by
  show WP mX12_through 286 Rf0 51 [some (.ref 261), some (.int l1), some (.int l2), some (.int l3)] [.int t0] I (qi Q)
  refine w_aload_n dX12_through_51 rfl rfl ?_
  refine w_getR dX12_through_52 fl_12_26 okC12 kd_261 (by decide) (by decide) rfl rf_261_14 ?_
  refine w_iload_n dX12_through_55 rfl rfl ?_
  refine w_iald dX12_through_56 kd_267 (by decide) H.1 ?_
  replace H := H.2
  refine w_iadd dX12_through_57 ?_
  exact w_iret dX12_through_58 rfl ⟨_, rfl, H⟩
set_option maxRecDepth 20000 in
theorem rX12_through {a1 a2 : Int32} {I : MI} {Q : Int32 → MI → Prop} (H : (vp_in (97 + a1) 332 ∧ (0 ≤ (I 274 (97 + a1).toNatClampNeg) → (vp_in (115 + a1) 332 ∧ (a2 < (I 274 (115 + a1).toNatClampNeg) → (((I 274 (97 + a1).toNatClampNeg) ≤ a2 → (LX12_through_51 a1 a2 (I 274 (97 + a1).toNatClampNeg) a2 I Q)) ∧ (¬ (I 274 (97 + a1).toNatClampNeg) ≤ a2 → (LX12_through_51 a1 a2 (I 274 (97 + a1).toNatClampNeg) (I 274 (97 + a1).toNatClampNeg) I Q)))) ∧ (¬ a2 < (I 274 (115 + a1).toNatClampNeg) → (Q 1000000000 I)))) ∧ (¬ 0 ≤ (I 274 (97 + a1).toNatClampNeg) → (vp_in a1 36 ∧ Q (a2 + (I 267 a1.toNatClampNeg)) I)))) : Wi mX12_through [.ref 261, .int a1, .int a2] I Q := by
  show WP mX12_through 286 Rf0 0 [some (.ref 261), some (.int a1), some (.int a2), none] [] I (qi Q)
  refine w_aload_n dX12_through_0 rfl rfl ?_
  refine w_getR dX12_through_1 fl_12_47 okC12 kd_261 (by decide) (by decide) rfl rf_261_22 ?_
  refine w_bipush (v := 97) dX12_through_4 (by decide) ?_
  refine w_iload_n dX12_through_6 rfl rfl ?_
  refine w_iadd dX12_through_7 ?_
  refine w_iald dX12_through_8 kd_274 (by decide) H.1 ?_
  replace H := H.2
  refine w_istore_n (ls' := [some (.ref 261), some (.int a1), some (.int a2), some (.int (I 274 (97 + a1).toNatClampNeg))]) dX12_through_9 rfl (by decide) rfl rfl ?_
  refine w_iload_n dX12_through_10 rfl rfl ?_
  refine w_if_ge (t := 23) dX12_through_11 (by decide) (fun h => ?_) (fun h => ?_)
  · replace H := H.1 h
    refine w_iload_n dX12_through_23 rfl rfl ?_
    refine w_aload_n dX12_through_24 rfl rfl ?_
    refine w_getR dX12_through_25 fl_12_47 okC12 kd_261 (by decide) (by decide) rfl rf_261_22 ?_
    refine w_bipush (v := 115) dX12_through_28 (by decide) ?_
    refine w_iload_n dX12_through_30 rfl rfl ?_
    refine w_iadd dX12_through_31 ?_
    refine w_iald dX12_through_32 kd_274 (by decide) H.1 ?_
    replace H := H.2
    refine w_icmp_lt (t := 41) dX12_through_33 (by decide) (fun h => ?_) (fun h => ?_)
    · replace H := H.1 h
      refine w_iload_n dX12_through_41 rfl rfl ?_
      refine w_iload_n dX12_through_42 rfl rfl ?_
      refine w_icmp_ge (t := 50) dX12_through_43 (by decide) (fun h => ?_) (fun h => ?_)
      · replace H := H.1 h
        refine w_iload_n dX12_through_50 rfl rfl ?_
        skip
        exact H
      · replace H := H.2 h
        refine w_iload_n dX12_through_46 rfl rfl ?_
        refine w_goto (t := 51) dX12_through_47 (by decide) ?_
        skip
        exact H
    · replace H := H.2 h
      refine w_ldc (v := 1000000000) dX12_through_36 kl_12_205 ?_
      refine w_goto (t := 58) dX12_through_38 (by decide) ?_
      exact w_iret dX12_through_58 rfl ⟨_, rfl, H⟩
  · replace H := H.2 h
    refine w_iload_n dX12_through_14 rfl rfl ?_
    refine w_aload_n dX12_through_15 rfl rfl ?_
    refine w_getR dX12_through_16 fl_12_26 okC12 kd_261 (by decide) (by decide) rfl rf_261_14 ?_
    refine w_iload_n dX12_through_19 rfl rfl ?_
    refine w_iald dX12_through_20 kd_267 (by decide) H.1 ?_
    replace H := H.2
    refine w_iadd dX12_through_21 ?_
    exact w_iret dX12_through_22 rfl ⟨_, rfl, H⟩
theorem dX12_layArrivals_0 : decode cX12_layArrivals 0 = .ok (.iconst 0, 1) := by decide +kernel
theorem dX12_layArrivals_1 : decode cX12_layArrivals 1 = .ok (.istore_n 3, 1) := by decide +kernel
theorem dX12_layArrivals_2 : decode cX12_layArrivals 2 = .ok (.iload_n 3, 1) := by decide +kernel
theorem dX12_layArrivals_3 : decode cX12_layArrivals 3 = .ok (.bipush 10, 2) := by decide +kernel
theorem dX12_layArrivals_5 : decode cX12_layArrivals 5 = .ok (.if_icmp .ge 24, 3) := by decide +kernel
theorem dX12_layArrivals_8 : decode cX12_layArrivals 8 = .ok (.aload_n 0, 1) := by decide +kernel
theorem dX12_layArrivals_9 : decode cX12_layArrivals 9 = .ok (.getfield 60, 3) := by decide +kernel
theorem dX12_layArrivals_12 : decode cX12_layArrivals 12 = .ok (.iload_n 3, 1) := by decide +kernel
theorem dX12_layArrivals_13 : decode cX12_layArrivals 13 = .ok (.ldc 205, 2) := by decide +kernel
theorem dX12_layArrivals_15 : decode cX12_layArrivals 15 = .ok (.iastore, 1) := by decide +kernel
theorem dX12_layArrivals_16 : decode cX12_layArrivals 16 = .ok (.aload_n 0, 1) := by decide +kernel
theorem dX12_layArrivals_17 : decode cX12_layArrivals 17 = .ok (.getfield 63, 3) := by decide +kernel
theorem dX12_layArrivals_20 : decode cX12_layArrivals 20 = .ok (.iload_n 3, 1) := by decide +kernel
theorem dX12_layArrivals_21 : decode cX12_layArrivals 21 = .ok (.iconst 0, 1) := by decide +kernel
theorem dX12_layArrivals_22 : decode cX12_layArrivals 22 = .ok (.bastore, 1) := by decide +kernel
theorem dX12_layArrivals_23 : decode cX12_layArrivals 23 = .ok (.iinc 3 1, 3) := by decide +kernel
theorem dX12_layArrivals_26 : decode cX12_layArrivals 26 = .ok (.goto (-24), 3) := by decide +kernel
theorem dX12_layArrivals_29 : decode cX12_layArrivals 29 = .ok (.aload_n 0, 1) := by decide +kernel
theorem dX12_layArrivals_30 : decode cX12_layArrivals 30 = .ok (.getfield 60, 3) := by decide +kernel
theorem dX12_layArrivals_33 : decode cX12_layArrivals 33 = .ok (.iload_n 1, 1) := by decide +kernel
theorem dX12_layArrivals_34 : decode cX12_layArrivals 34 = .ok (.iload_n 2, 1) := by decide +kernel
theorem dX12_layArrivals_35 : decode cX12_layArrivals 35 = .ok (.iastore, 1) := by decide +kernel
theorem dX12_layArrivals_36 : decode cX12_layArrivals 36 = .ok (.iconst 1, 1) := by decide +kernel
theorem dX12_layArrivals_37 : decode cX12_layArrivals 37 = .ok (.istore_n 3, 1) := by decide +kernel
theorem dX12_layArrivals_38 : decode cX12_layArrivals 38 = .ok (.iload_n 3, 1) := by decide +kernel
theorem dX12_layArrivals_39 : decode cX12_layArrivals 39 = .ok (.ifCond .eq 205, 3) := by decide +kernel
theorem dX12_layArrivals_42 : decode cX12_layArrivals 42 = .ok (.iconst (-1), 1) := by decide +kernel
theorem dX12_layArrivals_43 : decode cX12_layArrivals 43 = .ok (.istore 4, 2) := by decide +kernel
theorem dX12_layArrivals_45 : decode cX12_layArrivals 45 = .ok (.iconst 0, 1) := by decide +kernel
theorem dX12_layArrivals_46 : decode cX12_layArrivals 46 = .ok (.istore 5, 2) := by decide +kernel
theorem dX12_layArrivals_48 : decode cX12_layArrivals 48 = .ok (.iload 5, 2) := by decide +kernel
theorem dX12_layArrivals_50 : decode cX12_layArrivals 50 = .ok (.aload_n 0, 1) := by decide +kernel
theorem dX12_layArrivals_51 : decode cX12_layArrivals 51 = .ok (.getfield 13, 3) := by decide +kernel
theorem dX12_layArrivals_54 : decode cX12_layArrivals 54 = .ok (.iconst 0, 1) := by decide +kernel
theorem dX12_layArrivals_55 : decode cX12_layArrivals 55 = .ok (.iaload, 1) := by decide +kernel
theorem dX12_layArrivals_56 : decode cX12_layArrivals 56 = .ok (.if_icmp .ge 57, 3) := by decide +kernel
theorem dX12_layArrivals_59 : decode cX12_layArrivals 59 = .ok (.aload_n 0, 1) := by decide +kernel
theorem dX12_layArrivals_60 : decode cX12_layArrivals 60 = .ok (.getfield 63, 3) := by decide +kernel
theorem dX12_layArrivals_63 : decode cX12_layArrivals 63 = .ok (.iload 5, 2) := by decide +kernel
theorem dX12_layArrivals_65 : decode cX12_layArrivals 65 = .ok (.baload, 1) := by decide +kernel
theorem dX12_layArrivals_66 : decode cX12_layArrivals 66 = .ok (.ifCond .ne 41, 3) := by decide +kernel
theorem dX12_layArrivals_69 : decode cX12_layArrivals 69 = .ok (.aload_n 0, 1) := by decide +kernel
theorem dX12_layArrivals_70 : decode cX12_layArrivals 70 = .ok (.getfield 60, 3) := by decide +kernel
theorem dX12_layArrivals_73 : decode cX12_layArrivals 73 = .ok (.iload 5, 2) := by decide +kernel
theorem dX12_layArrivals_75 : decode cX12_layArrivals 75 = .ok (.iaload, 1) := by decide +kernel
theorem dX12_layArrivals_76 : decode cX12_layArrivals 76 = .ok (.ldc 205, 2) := by decide +kernel
theorem dX12_layArrivals_78 : decode cX12_layArrivals 78 = .ok (.if_icmp .ge 29, 3) := by decide +kernel
theorem dX12_layArrivals_81 : decode cX12_layArrivals 81 = .ok (.iload 4, 2) := by decide +kernel
theorem dX12_layArrivals_83 : decode cX12_layArrivals 83 = .ok (.ifCond .lt 20, 3) := by decide +kernel
theorem dX12_layArrivals_86 : decode cX12_layArrivals 86 = .ok (.aload_n 0, 1) := by decide +kernel
theorem dX12_layArrivals_87 : decode cX12_layArrivals 87 = .ok (.getfield 60, 3) := by decide +kernel
theorem dX12_layArrivals_90 : decode cX12_layArrivals 90 = .ok (.iload 5, 2) := by decide +kernel
theorem dX12_layArrivals_92 : decode cX12_layArrivals 92 = .ok (.iaload, 1) := by decide +kernel
theorem dX12_layArrivals_93 : decode cX12_layArrivals 93 = .ok (.aload_n 0, 1) := by decide +kernel
theorem dX12_layArrivals_94 : decode cX12_layArrivals 94 = .ok (.getfield 60, 3) := by decide +kernel
theorem dX12_layArrivals_97 : decode cX12_layArrivals 97 = .ok (.iload 4, 2) := by decide +kernel
theorem dX12_layArrivals_99 : decode cX12_layArrivals 99 = .ok (.iaload, 1) := by decide +kernel
theorem dX12_layArrivals_100 : decode cX12_layArrivals 100 = .ok (.if_icmp .ge 7, 3) := by decide +kernel
theorem dX12_layArrivals_103 : decode cX12_layArrivals 103 = .ok (.iload 5, 2) := by decide +kernel
theorem dX12_layArrivals_105 : decode cX12_layArrivals 105 = .ok (.istore 4, 2) := by decide +kernel
theorem dX12_layArrivals_107 : decode cX12_layArrivals 107 = .ok (.iinc 5 1, 3) := by decide +kernel
theorem dX12_layArrivals_110 : decode cX12_layArrivals 110 = .ok (.goto (-62), 3) := by decide +kernel
theorem dX12_layArrivals_113 : decode cX12_layArrivals 113 = .ok (.iload 4, 2) := by decide +kernel
theorem dX12_layArrivals_115 : decode cX12_layArrivals 115 = .ok (.ifCond .lt 7, 3) := by decide +kernel
theorem dX12_layArrivals_118 : decode cX12_layArrivals 118 = .ok (.iconst 1, 1) := by decide +kernel
theorem dX12_layArrivals_119 : decode cX12_layArrivals 119 = .ok (.goto 4, 3) := by decide +kernel
theorem dX12_layArrivals_122 : decode cX12_layArrivals 122 = .ok (.iconst 0, 1) := by decide +kernel
theorem dX12_layArrivals_123 : decode cX12_layArrivals 123 = .ok (.istore_n 3, 1) := by decide +kernel
theorem dX12_layArrivals_124 : decode cX12_layArrivals 124 = .ok (.iload_n 3, 1) := by decide +kernel
theorem dX12_layArrivals_125 : decode cX12_layArrivals 125 = .ok (.ifCond .ne 6, 3) := by decide +kernel
theorem dX12_layArrivals_128 : decode cX12_layArrivals 128 = .ok (.goto (-90), 3) := by decide +kernel
theorem dX12_layArrivals_131 : decode cX12_layArrivals 131 = .ok (.aload_n 0, 1) := by decide +kernel
theorem dX12_layArrivals_132 : decode cX12_layArrivals 132 = .ok (.getfield 63, 3) := by decide +kernel
theorem dX12_layArrivals_135 : decode cX12_layArrivals 135 = .ok (.iload 4, 2) := by decide +kernel
theorem dX12_layArrivals_137 : decode cX12_layArrivals 137 = .ok (.iconst 1, 1) := by decide +kernel
theorem dX12_layArrivals_138 : decode cX12_layArrivals 138 = .ok (.bastore, 1) := by decide +kernel
theorem dX12_layArrivals_139 : decode cX12_layArrivals 139 = .ok (.iconst 0, 1) := by decide +kernel
theorem dX12_layArrivals_140 : decode cX12_layArrivals 140 = .ok (.istore 5, 2) := by decide +kernel
theorem dX12_layArrivals_142 : decode cX12_layArrivals 142 = .ok (.iload 5, 2) := by decide +kernel
theorem dX12_layArrivals_144 : decode cX12_layArrivals 144 = .ok (.aload_n 0, 1) := by decide +kernel
theorem dX12_layArrivals_145 : decode cX12_layArrivals 145 = .ok (.getfield 13, 3) := by decide +kernel
theorem dX12_layArrivals_148 : decode cX12_layArrivals 148 = .ok (.iconst 5, 1) := by decide +kernel
theorem dX12_layArrivals_149 : decode cX12_layArrivals 149 = .ok (.iaload, 1) := by decide +kernel
theorem dX12_layArrivals_150 : decode cX12_layArrivals 150 = .ok (.if_icmp .ge 91, 3) := by decide +kernel
theorem dX12_layArrivals_153 : decode cX12_layArrivals 153 = .ok (.aload_n 0, 1) := by decide +kernel
theorem dX12_layArrivals_154 : decode cX12_layArrivals 154 = .ok (.getfield 20, 3) := by decide +kernel
theorem dX12_layArrivals_157 : decode cX12_layArrivals 157 = .ok (.iload 5, 2) := by decide +kernel
theorem dX12_layArrivals_159 : decode cX12_layArrivals 159 = .ok (.iaload, 1) := by decide +kernel
theorem dX12_layArrivals_160 : decode cX12_layArrivals 160 = .ok (.iload 4, 2) := by decide +kernel
theorem dX12_layArrivals_162 : decode cX12_layArrivals 162 = .ok (.if_icmp .ne 13, 3) := by decide +kernel
theorem dX12_layArrivals_165 : decode cX12_layArrivals 165 = .ok (.aload_n 0, 1) := by decide +kernel
theorem dX12_layArrivals_166 : decode cX12_layArrivals 166 = .ok (.getfield 23, 3) := by decide +kernel
theorem dX12_layArrivals_169 : decode cX12_layArrivals 169 = .ok (.iload 5, 2) := by decide +kernel
theorem dX12_layArrivals_171 : decode cX12_layArrivals 171 = .ok (.iaload, 1) := by decide +kernel
theorem dX12_layArrivals_172 : decode cX12_layArrivals 172 = .ok (.goto 26, 3) := by decide +kernel
theorem dX12_layArrivals_175 : decode cX12_layArrivals 175 = .ok (.aload_n 0, 1) := by decide +kernel
theorem dX12_layArrivals_176 : decode cX12_layArrivals 176 = .ok (.getfield 23, 3) := by decide +kernel
theorem dX12_layArrivals_179 : decode cX12_layArrivals 179 = .ok (.iload 5, 2) := by decide +kernel
theorem dX12_layArrivals_181 : decode cX12_layArrivals 181 = .ok (.iaload, 1) := by decide +kernel
theorem dX12_layArrivals_182 : decode cX12_layArrivals 182 = .ok (.iload 4, 2) := by decide +kernel
theorem dX12_layArrivals_184 : decode cX12_layArrivals 184 = .ok (.if_icmp .ne 13, 3) := by decide +kernel
theorem dX12_layArrivals_187 : decode cX12_layArrivals 187 = .ok (.aload_n 0, 1) := by decide +kernel
theorem dX12_layArrivals_188 : decode cX12_layArrivals 188 = .ok (.getfield 20, 3) := by decide +kernel
theorem dX12_layArrivals_191 : decode cX12_layArrivals 191 = .ok (.iload 5, 2) := by decide +kernel
theorem dX12_layArrivals_193 : decode cX12_layArrivals 193 = .ok (.iaload, 1) := by decide +kernel
theorem dX12_layArrivals_194 : decode cX12_layArrivals 194 = .ok (.goto 4, 3) := by decide +kernel
theorem dX12_layArrivals_197 : decode cX12_layArrivals 197 = .ok (.iconst (-1), 1) := by decide +kernel
theorem dX12_layArrivals_198 : decode cX12_layArrivals 198 = .ok (.istore 6, 2) := by decide +kernel
theorem dX12_layArrivals_200 : decode cX12_layArrivals 200 = .ok (.iload 6, 2) := by decide +kernel
theorem dX12_layArrivals_202 : decode cX12_layArrivals 202 = .ok (.ifCond .lt 33, 3) := by decide +kernel
theorem dX12_layArrivals_205 : decode cX12_layArrivals 205 = .ok (.aload_n 0, 1) := by decide +kernel
theorem dX12_layArrivals_206 : decode cX12_layArrivals 206 = .ok (.getfield 60, 3) := by decide +kernel
theorem dX12_layArrivals_209 : decode cX12_layArrivals 209 = .ok (.iload 6, 2) := by decide +kernel
theorem dX12_layArrivals_211 : decode cX12_layArrivals 211 = .ok (.aload_n 0, 1) := by decide +kernel
theorem dX12_layArrivals_212 : decode cX12_layArrivals 212 = .ok (.getfield 60, 3) := by decide +kernel
theorem dX12_layArrivals_215 : decode cX12_layArrivals 215 = .ok (.iload 6, 2) := by decide +kernel
theorem dX12_layArrivals_217 : decode cX12_layArrivals 217 = .ok (.iaload, 1) := by decide +kernel
theorem dX12_layArrivals_218 : decode cX12_layArrivals 218 = .ok (.aload_n 0, 1) := by decide +kernel
theorem dX12_layArrivals_219 : decode cX12_layArrivals 219 = .ok (.iload 5, 2) := by decide +kernel
theorem dX12_layArrivals_221 : decode cX12_layArrivals 221 = .ok (.aload_n 0, 1) := by decide +kernel
theorem dX12_layArrivals_222 : decode cX12_layArrivals 222 = .ok (.getfield 60, 3) := by decide +kernel
theorem dX12_layArrivals_225 : decode cX12_layArrivals 225 = .ok (.iload 4, 2) := by decide +kernel
theorem dX12_layArrivals_227 : decode cX12_layArrivals 227 = .ok (.iaload, 1) := by decide +kernel
theorem dX12_layArrivals_228 : decode cX12_layArrivals 228 = .ok (.invokevirtual 206, 3) := by decide +kernel
theorem dX12_layArrivals_231 : decode cX12_layArrivals 231 = .ok (.invokestatic 209, 3) := by decide +kernel
theorem dX12_layArrivals_234 : decode cX12_layArrivals 234 = .ok (.iastore, 1) := by decide +kernel
theorem dX12_layArrivals_235 : decode cX12_layArrivals 235 = .ok (.iinc 5 1, 3) := by decide +kernel
theorem dX12_layArrivals_238 : decode cX12_layArrivals 238 = .ok (.goto (-96), 3) := by decide +kernel
theorem dX12_layArrivals_241 : decode cX12_layArrivals 241 = .ok (.goto (-203), 3) := by decide +kernel
theorem dX12_layArrivals_244 : decode cX12_layArrivals 244 = .ok (.return_, 1) := by decide +kernel
abbrev LX12_layArrivals_2 (l1 l2 l3 : Int32) (I : MI) (Q : MI → Prop) : Prop := WP mX12_layArrivals 286 Rf0 2 [some (.ref 261), some (.int l1), some (.int l2), some (.int l3), none, none, none] [] I (qv Q)
abbrev LX12_layArrivals_38 (l1 l2 l3 : Int32) (I : MI) (Q : MI → Prop) : Prop := WP mX12_layArrivals 286 Rf0 38 [some (.ref 261), some (.int l1), some (.int l2), some (.int l3), none, none, none] [] I (qv Q)
abbrev LX12_layArrivals_48 (l1 l2 l3 l4 l5 : Int32) (I : MI) (Q : MI → Prop) : Prop := WP mX12_layArrivals 286 Rf0 48 [some (.ref 261), some (.int l1), some (.int l2), some (.int l3), some (.int l4), some (.int l5), none] [] I (qv Q)
abbrev LX12_layArrivals_103 (l1 l2 l3 l4 l5 : Int32) (I : MI) (Q : MI → Prop) : Prop := WP mX12_layArrivals 286 Rf0 103 [some (.ref 261), some (.int l1), some (.int l2), some (.int l3), some (.int l4), some (.int l5), none] [] I (qv Q)
abbrev LX12_layArrivals_107 (l1 l2 l3 l4 l5 : Int32) (I : MI) (Q : MI → Prop) : Prop := WP mX12_layArrivals 286 Rf0 107 [some (.ref 261), some (.int l1), some (.int l2), some (.int l3), some (.int l4), some (.int l5), none] [] I (qv Q)
abbrev LX12_layArrivals_123 (l1 l2 l3 l4 l5 t0 : Int32) (I : MI) (Q : MI → Prop) : Prop := WP mX12_layArrivals 286 Rf0 123 [some (.ref 261), some (.int l1), some (.int l2), some (.int l3), some (.int l4), some (.int l5), none] [.int t0] I (qv Q)
abbrev LX12_layArrivals_142 (l1 l2 l3 l4 l5 : Int32) (I : MI) (Q : MI → Prop) : Prop := WP mX12_layArrivals 286 Rf0 142 [some (.ref 261), some (.int l1), some (.int l2), some (.int l3), some (.int l4), some (.int l5), none] [] I (qv Q)
abbrev LX12_layArrivals_198 (l1 l2 l3 l4 l5 t0 : Int32) (I : MI) (Q : MI → Prop) : Prop := WP mX12_layArrivals 286 Rf0 198 [some (.ref 261), some (.int l1), some (.int l2), some (.int l3), some (.int l4), some (.int l5), none] [.int t0] I (qv Q)
abbrev LX12_layArrivals_235 (l1 l2 l3 l4 l5 l6 : Int32) (I : MI) (Q : MI → Prop) : Prop := WP mX12_layArrivals 286 Rf0 235 [some (.ref 261), some (.int l1), some (.int l2), some (.int l3), some (.int l4), some (.int l5), some (.int l6)] [] I (qv Q)
set_option maxRecDepth 20000 in
theorem rX12_layArrivals_2 {l1 l2 l3 : Int32} {I : MI} {Q : MI → Prop} (H : ((10 ≤ l3 → (vp_in l1 10 ∧ ∀ I1 : MI, I1 = up2 I 278 l1.toNatClampNeg l2 → LX12_layArrivals_38 l1 l2 1 I1 Q)) ∧ (¬ 10 ≤ l3 → (vp_in l3 10 ∧ ∀ I1 : MI, I1 = up2 I 278 l3.toNatClampNeg 1000000000 → vp_in l3 10 ∧ ∀ I2 : MI, I2 = up2 I1 279 l3.toNatClampNeg (vp_nar .boolean 0) → LX12_layArrivals_2 l1 l2 (l3 + 1) I2 Q)))) : LX12_layArrivals_2 l1 l2 l3 I Q := by
  show WP mX12_layArrivals 286 Rf0 2 [some (.ref 261), some (.int l1), some (.int l2), some (.int l3), none, none, none] [] I (qv Q)
  refine w_iload_n dX12_layArrivals_2 rfl rfl ?_
  refine w_bipush (v := 10) dX12_layArrivals_3 (by decide) ?_
  refine w_icmp_ge (t := 29) dX12_layArrivals_5 (by decide) (fun h => ?_) (fun h => ?_)
  · replace H := H.1 h
    refine w_aload_n dX12_layArrivals_29 rfl rfl ?_
    refine w_getR dX12_layArrivals_30 fl_12_60 okC12 kd_261 (by decide) (by decide) rfl rf_261_27 ?_
    refine w_iload_n dX12_layArrivals_33 rfl rfl ?_
    refine w_iload_n dX12_layArrivals_34 rfl rfl ?_
    refine w_iast dX12_layArrivals_35 kd_278 (by decide) H.1 (w_up fun I1 hI => ?_)
    replace H := H.2 I1 hI
    refine w_iconst (v := 1) dX12_layArrivals_36 (by decide) ?_
    refine w_istore_n (ls' := [some (.ref 261), some (.int l1), some (.int l2), some (.int 1), none, none, none]) dX12_layArrivals_37 rfl (by decide) rfl rfl ?_
    skip
    exact H
  · replace H := H.2 h
    refine w_aload_n dX12_layArrivals_8 rfl rfl ?_
    refine w_getR dX12_layArrivals_9 fl_12_60 okC12 kd_261 (by decide) (by decide) rfl rf_261_27 ?_
    refine w_iload_n dX12_layArrivals_12 rfl rfl ?_
    refine w_ldc (v := 1000000000) dX12_layArrivals_13 kl_12_205 ?_
    refine w_iast dX12_layArrivals_15 kd_278 (by decide) H.1 (w_up fun I1 hI => ?_)
    replace H := H.2 I1 hI
    refine w_aload_n dX12_layArrivals_16 rfl rfl ?_
    refine w_getR dX12_layArrivals_17 fl_12_63 okC12 kd_261 (by decide) (by decide) rfl rf_261_28 ?_
    refine w_iload_n dX12_layArrivals_20 rfl rfl ?_
    refine w_iconst (v := 0) dX12_layArrivals_21 (by decide) ?_
    refine w_zast dX12_layArrivals_22 kd_279 (by decide) H.1 (w_up fun I2 hI => ?_)
    replace H := H.2 I2 hI
    refine w_iinc (v := l3 + 1) (ls' := [some (.ref 261), some (.int l1), some (.int l2), some (.int (l3 + 1)), none, none, none]) dX12_layArrivals_23 rfl rfl (by decide) rfl rfl ?_
    refine w_goto (t := 2) dX12_layArrivals_26 (by decide) ?_
    skip
    exact H
set_option maxRecDepth 20000 in
theorem rX12_layArrivals_38 {l1 l2 l3 : Int32} {I : MI} {Q : MI → Prop} (H : ((l3 = 0 → (Q I)) ∧ (¬ l3 = 0 → (LX12_layArrivals_48 l1 l2 l3 (-1) 0 I Q)))) : LX12_layArrivals_38 l1 l2 l3 I Q := by
  show WP mX12_layArrivals 286 Rf0 38 [some (.ref 261), some (.int l1), some (.int l2), some (.int l3), none, none, none] [] I (qv Q)
  refine w_iload_n dX12_layArrivals_38 rfl rfl ?_
  refine w_if_eq (t := 244) dX12_layArrivals_39 (by decide) (fun h => ?_) (fun h => ?_)
  · replace H := H.1 h
    exact w_vret dX12_layArrivals_244 rfl ⟨rfl, H⟩
  · replace H := H.2 h
    refine w_iconst (v := (-1)) dX12_layArrivals_42 (by decide) ?_
    refine w_istore (ls' := [some (.ref 261), some (.int l1), some (.int l2), some (.int l3), some (.int (-1)), none, none]) dX12_layArrivals_43 (by decide) rfl rfl ?_
    refine w_iconst (v := 0) dX12_layArrivals_45 (by decide) ?_
    refine w_istore (ls' := [some (.ref 261), some (.int l1), some (.int l2), some (.int l3), some (.int (-1)), some (.int 0), none]) dX12_layArrivals_46 (by decide) rfl rfl ?_
    skip
    exact H
set_option maxRecDepth 20000 in
theorem rX12_layArrivals_48 {l1 l2 l3 l4 l5 : Int32} {I : MI} {Q : MI → Prop} (H : (vp_in 0 7 ∧ ((I 263 (0 : Int32).toNatClampNeg) ≤ l5 → ((l4 < 0 → (LX12_layArrivals_123 l1 l2 l3 l4 l5 0 I Q)) ∧ (¬ l4 < 0 → (LX12_layArrivals_123 l1 l2 l3 l4 l5 1 I Q)))) ∧ (¬ (I 263 (0 : Int32).toNatClampNeg) ≤ l5 → (vp_in l5 10 ∧ (¬ (I 279 l5.toNatClampNeg) = 0 → (LX12_layArrivals_107 l1 l2 l3 l4 l5 I Q)) ∧ ((I 279 l5.toNatClampNeg) = 0 → (vp_in l5 10 ∧ (1000000000 ≤ (I 278 l5.toNatClampNeg) → (LX12_layArrivals_107 l1 l2 l3 l4 l5 I Q)) ∧ (¬ 1000000000 ≤ (I 278 l5.toNatClampNeg) → ((l4 < 0 → (LX12_layArrivals_103 l1 l2 l3 l4 l5 I Q)) ∧ (¬ l4 < 0 → (vp_in l5 10 ∧ vp_in l4 10 ∧ ((I 278 l4.toNatClampNeg) ≤ (I 278 l5.toNatClampNeg) → (LX12_layArrivals_107 l1 l2 l3 l4 l5 I Q)) ∧ (¬ (I 278 l4.toNatClampNeg) ≤ (I 278 l5.toNatClampNeg) → (LX12_layArrivals_103 l1 l2 l3 l4 l5 I Q)))))))))))) : LX12_layArrivals_48 l1 l2 l3 l4 l5 I Q := by
  show WP mX12_layArrivals 286 Rf0 48 [some (.ref 261), some (.int l1), some (.int l2), some (.int l3), some (.int l4), some (.int l5), none] [] I (qv Q)
  refine w_iload dX12_layArrivals_48 rfl ?_
  refine w_aload_n dX12_layArrivals_50 rfl rfl ?_
  refine w_getR dX12_layArrivals_51 fl_12_13 okC12 kd_261 (by decide) (by decide) rfl rf_261_10 ?_
  refine w_iconst (v := 0) dX12_layArrivals_54 (by decide) ?_
  refine w_iald dX12_layArrivals_55 kd_263 (by decide) H.1 ?_
  replace H := H.2
  refine w_icmp_ge (t := 113) dX12_layArrivals_56 (by decide) (fun h => ?_) (fun h => ?_)
  · replace H := H.1 h
    refine w_iload dX12_layArrivals_113 rfl ?_
    refine w_if_lt (t := 122) dX12_layArrivals_115 (by decide) (fun h => ?_) (fun h => ?_)
    · replace H := H.1 h
      refine w_iconst (v := 0) dX12_layArrivals_122 (by decide) ?_
      skip
      exact H
    · replace H := H.2 h
      refine w_iconst (v := 1) dX12_layArrivals_118 (by decide) ?_
      refine w_goto (t := 123) dX12_layArrivals_119 (by decide) ?_
      skip
      exact H
  · replace H := H.2 h
    refine w_aload_n dX12_layArrivals_59 rfl rfl ?_
    refine w_getR dX12_layArrivals_60 fl_12_63 okC12 kd_261 (by decide) (by decide) rfl rf_261_28 ?_
    refine w_iload dX12_layArrivals_63 rfl ?_
    refine w_zald dX12_layArrivals_65 kd_279 (by decide) H.1 ?_
    replace H := H.2
    refine w_if_ne (t := 107) dX12_layArrivals_66 (by decide) (fun h => ?_) (fun h => ?_)
    · replace H := H.1 h
      skip
      exact H
    · replace H := H.2 h
      refine w_aload_n dX12_layArrivals_69 rfl rfl ?_
      refine w_getR dX12_layArrivals_70 fl_12_60 okC12 kd_261 (by decide) (by decide) rfl rf_261_27 ?_
      refine w_iload dX12_layArrivals_73 rfl ?_
      refine w_iald dX12_layArrivals_75 kd_278 (by decide) H.1 ?_
      replace H := H.2
      refine w_ldc (v := 1000000000) dX12_layArrivals_76 kl_12_205 ?_
      refine w_icmp_ge (t := 107) dX12_layArrivals_78 (by decide) (fun h => ?_) (fun h => ?_)
      · replace H := H.1 h
        skip
        exact H
      · replace H := H.2 h
        refine w_iload dX12_layArrivals_81 rfl ?_
        refine w_if_lt (t := 103) dX12_layArrivals_83 (by decide) (fun h => ?_) (fun h => ?_)
        · replace H := H.1 h
          skip
          exact H
        · replace H := H.2 h
          refine w_aload_n dX12_layArrivals_86 rfl rfl ?_
          refine w_getR dX12_layArrivals_87 fl_12_60 okC12 kd_261 (by decide) (by decide) rfl rf_261_27 ?_
          refine w_iload dX12_layArrivals_90 rfl ?_
          refine w_iald dX12_layArrivals_92 kd_278 (by decide) H.1 ?_
          replace H := H.2
          refine w_aload_n dX12_layArrivals_93 rfl rfl ?_
          refine w_getR dX12_layArrivals_94 fl_12_60 okC12 kd_261 (by decide) (by decide) rfl rf_261_27 ?_
          refine w_iload dX12_layArrivals_97 rfl ?_
          refine w_iald dX12_layArrivals_99 kd_278 (by decide) H.1 ?_
          replace H := H.2
          refine w_icmp_ge (t := 107) dX12_layArrivals_100 (by decide) (fun h => ?_) (fun h => ?_)
          · replace H := H.1 h
            skip
            exact H
          · replace H := H.2 h
            skip
            exact H
set_option maxRecDepth 20000 in
theorem rX12_layArrivals_103 {l1 l2 l3 l4 l5 : Int32} {I : MI} {Q : MI → Prop} (H : (LX12_layArrivals_107 l1 l2 l3 l5 l5 I Q)) : LX12_layArrivals_103 l1 l2 l3 l4 l5 I Q := by
  show WP mX12_layArrivals 286 Rf0 103 [some (.ref 261), some (.int l1), some (.int l2), some (.int l3), some (.int l4), some (.int l5), none] [] I (qv Q)
  refine w_iload dX12_layArrivals_103 rfl ?_
  refine w_istore (ls' := [some (.ref 261), some (.int l1), some (.int l2), some (.int l3), some (.int l5), some (.int l5), none]) dX12_layArrivals_105 (by decide) rfl rfl ?_
  skip
  exact H
set_option maxRecDepth 20000 in
theorem rX12_layArrivals_107 {l1 l2 l3 l4 l5 : Int32} {I : MI} {Q : MI → Prop} (H : (LX12_layArrivals_48 l1 l2 l3 l4 (l5 + 1) I Q)) : LX12_layArrivals_107 l1 l2 l3 l4 l5 I Q := by
  show WP mX12_layArrivals 286 Rf0 107 [some (.ref 261), some (.int l1), some (.int l2), some (.int l3), some (.int l4), some (.int l5), none] [] I (qv Q)
  refine w_iinc (v := l5 + 1) (ls' := [some (.ref 261), some (.int l1), some (.int l2), some (.int l3), some (.int l4), some (.int (l5 + 1)), none]) dX12_layArrivals_107 rfl rfl (by decide) rfl rfl ?_
  refine w_goto (t := 48) dX12_layArrivals_110 (by decide) ?_
  skip
  exact H
set_option maxRecDepth 20000 in
theorem rX12_layArrivals_123 {l1 l2 l3 l4 l5 t0 : Int32} {I : MI} {Q : MI → Prop} (H : ((¬ t0 = 0 → (vp_in l4 10 ∧ ∀ I1 : MI, I1 = up2 I 279 l4.toNatClampNeg (vp_nar .boolean 1) → LX12_layArrivals_142 l1 l2 t0 l4 0 I1 Q)) ∧ (t0 = 0 → (LX12_layArrivals_38 l1 l2 t0 I Q)))) : LX12_layArrivals_123 l1 l2 l3 l4 l5 t0 I Q := by
  show WP mX12_layArrivals 286 Rf0 123 [some (.ref 261), some (.int l1), some (.int l2), some (.int l3), some (.int l4), some (.int l5), none] [.int t0] I (qv Q)
  refine w_istore_n (ls' := [some (.ref 261), some (.int l1), some (.int l2), some (.int t0), some (.int l4), some (.int l5), none]) dX12_layArrivals_123 rfl (by decide) rfl rfl ?_
  refine w_iload_n dX12_layArrivals_124 rfl rfl ?_
  refine w_if_ne (t := 131) dX12_layArrivals_125 (by decide) (fun h => ?_) (fun h => ?_)
  · replace H := H.1 h
    refine w_aload_n dX12_layArrivals_131 rfl rfl ?_
    refine w_getR dX12_layArrivals_132 fl_12_63 okC12 kd_261 (by decide) (by decide) rfl rf_261_28 ?_
    refine w_iload dX12_layArrivals_135 rfl ?_
    refine w_iconst (v := 1) dX12_layArrivals_137 (by decide) ?_
    refine w_zast dX12_layArrivals_138 kd_279 (by decide) H.1 (w_up fun I1 hI => ?_)
    replace H := H.2 I1 hI
    refine w_iconst (v := 0) dX12_layArrivals_139 (by decide) ?_
    refine w_istore (ls' := [some (.ref 261), some (.int l1), some (.int l2), some (.int t0), some (.int l4), some (.int 0), none]) dX12_layArrivals_140 (by decide) rfl rfl ?_
    skip
    exact H
  · replace H := H.2 h
    refine w_goto (t := 38) dX12_layArrivals_128 (by decide) ?_
    refine w_less (ls' := [some (.ref 261), some (.int l1), some (.int l2), some (.int t0), none, none, none]) (by simp [lsub]) ?_
    exact H
set_option maxRecDepth 20000 in
theorem rX12_layArrivals_142 {l1 l2 l3 l4 l5 : Int32} {I : MI} {Q : MI → Prop} (H : (vp_in 5 7 ∧ ((I 263 (5 : Int32).toNatClampNeg) ≤ l5 → (LX12_layArrivals_38 l1 l2 l3 I Q)) ∧ (¬ (I 263 (5 : Int32).toNatClampNeg) ≤ l5 → (vp_in l5 36 ∧ (¬ (I 265 l5.toNatClampNeg) = l4 → (vp_in l5 36 ∧ (¬ (I 266 l5.toNatClampNeg) = l4 → (LX12_layArrivals_198 l1 l2 l3 l4 l5 (-1) I Q)) ∧ ((I 266 l5.toNatClampNeg) = l4 → (vp_in l5 36 ∧ LX12_layArrivals_198 l1 l2 l3 l4 l5 (I 265 l5.toNatClampNeg) I Q)))) ∧ ((I 265 l5.toNatClampNeg) = l4 → (vp_in l5 36 ∧ LX12_layArrivals_198 l1 l2 l3 l4 l5 (I 266 l5.toNatClampNeg) I Q)))))) : LX12_layArrivals_142 l1 l2 l3 l4 l5 I Q := by
  show WP mX12_layArrivals 286 Rf0 142 [some (.ref 261), some (.int l1), some (.int l2), some (.int l3), some (.int l4), some (.int l5), none] [] I (qv Q)
  refine w_iload dX12_layArrivals_142 rfl ?_
  refine w_aload_n dX12_layArrivals_144 rfl rfl ?_
  refine w_getR dX12_layArrivals_145 fl_12_13 okC12 kd_261 (by decide) (by decide) rfl rf_261_10 ?_
  refine w_iconst (v := 5) dX12_layArrivals_148 (by decide) ?_
  refine w_iald dX12_layArrivals_149 kd_263 (by decide) H.1 ?_
  replace H := H.2
  refine w_icmp_ge (t := 241) dX12_layArrivals_150 (by decide) (fun h => ?_) (fun h => ?_)
  · replace H := H.1 h
    refine w_goto (t := 38) dX12_layArrivals_241 (by decide) ?_
    refine w_less (ls' := [some (.ref 261), some (.int l1), some (.int l2), some (.int l3), none, none, none]) (by simp [lsub]) ?_
    exact H
  · replace H := H.2 h
    refine w_aload_n dX12_layArrivals_153 rfl rfl ?_
    refine w_getR dX12_layArrivals_154 fl_12_20 okC12 kd_261 (by decide) (by decide) rfl rf_261_12 ?_
    refine w_iload dX12_layArrivals_157 rfl ?_
    refine w_iald dX12_layArrivals_159 kd_265 (by decide) H.1 ?_
    replace H := H.2
    refine w_iload dX12_layArrivals_160 rfl ?_
    refine w_icmp_ne (t := 175) dX12_layArrivals_162 (by decide) (fun h => ?_) (fun h => ?_)
    · replace H := H.1 h
      refine w_aload_n dX12_layArrivals_175 rfl rfl ?_
      refine w_getR dX12_layArrivals_176 fl_12_23 okC12 kd_261 (by decide) (by decide) rfl rf_261_13 ?_
      refine w_iload dX12_layArrivals_179 rfl ?_
      refine w_iald dX12_layArrivals_181 kd_266 (by decide) H.1 ?_
      replace H := H.2
      refine w_iload dX12_layArrivals_182 rfl ?_
      refine w_icmp_ne (t := 197) dX12_layArrivals_184 (by decide) (fun h => ?_) (fun h => ?_)
      · replace H := H.1 h
        refine w_iconst (v := (-1)) dX12_layArrivals_197 (by decide) ?_
        skip
        exact H
      · replace H := H.2 h
        refine w_aload_n dX12_layArrivals_187 rfl rfl ?_
        refine w_getR dX12_layArrivals_188 fl_12_20 okC12 kd_261 (by decide) (by decide) rfl rf_261_12 ?_
        refine w_iload dX12_layArrivals_191 rfl ?_
        refine w_iald dX12_layArrivals_193 kd_265 (by decide) H.1 ?_
        replace H := H.2
        refine w_goto (t := 198) dX12_layArrivals_194 (by decide) ?_
        skip
        exact H
    · replace H := H.2 h
      refine w_aload_n dX12_layArrivals_165 rfl rfl ?_
      refine w_getR dX12_layArrivals_166 fl_12_23 okC12 kd_261 (by decide) (by decide) rfl rf_261_13 ?_
      refine w_iload dX12_layArrivals_169 rfl ?_
      refine w_iald dX12_layArrivals_171 kd_266 (by decide) H.1 ?_
      replace H := H.2
      refine w_goto (t := 198) dX12_layArrivals_172 (by decide) ?_
      skip
      exact H
set_option maxRecDepth 20000 in
theorem rX12_layArrivals_198 {l1 l2 l3 l4 l5 t0 : Int32} {I : MI} {Q : MI → Prop} (H : ((t0 < 0 → (LX12_layArrivals_235 l1 l2 l3 l4 l5 t0 I Q)) ∧ (¬ t0 < 0 → (vp_in t0 10 ∧ vp_in l4 10 ∧ Wi mX12_through [.ref 261, .int l5, .int (I 278 l4.toNatClampNeg)] I (fun r2 I1 => (∀ x3 : Int32, x3 = (if r2 < (I 278 t0.toNatClampNeg) then r2 else (I 278 t0.toNatClampNeg)) → vp_in t0 10 ∧ ∀ I4 : MI, I4 = up2 I1 278 t0.toNatClampNeg x3 → LX12_layArrivals_235 l1 l2 l3 l4 l5 t0 I4 Q)))))) : LX12_layArrivals_198 l1 l2 l3 l4 l5 t0 I Q := by
  show WP mX12_layArrivals 286 Rf0 198 [some (.ref 261), some (.int l1), some (.int l2), some (.int l3), some (.int l4), some (.int l5), none] [.int t0] I (qv Q)
  refine w_istore (ls' := [some (.ref 261), some (.int l1), some (.int l2), some (.int l3), some (.int l4), some (.int l5), some (.int t0)]) dX12_layArrivals_198 (by decide) rfl rfl ?_
  refine w_iload dX12_layArrivals_200 rfl ?_
  refine w_if_lt (t := 235) dX12_layArrivals_202 (by decide) (fun h => ?_) (fun h => ?_)
  · replace H := H.1 h
    skip
    exact H
  · replace H := H.2 h
    refine w_aload_n dX12_layArrivals_205 rfl rfl ?_
    refine w_getR dX12_layArrivals_206 fl_12_60 okC12 kd_261 (by decide) (by decide) rfl rf_261_27 ?_
    refine w_iload dX12_layArrivals_209 rfl ?_
    refine w_aload_n dX12_layArrivals_211 rfl rfl ?_
    refine w_getR dX12_layArrivals_212 fl_12_60 okC12 kd_261 (by decide) (by decide) rfl rf_261_27 ?_
    refine w_iload dX12_layArrivals_215 rfl ?_
    refine w_iald dX12_layArrivals_217 kd_278 (by decide) H.1 ?_
    replace H := H.2
    refine w_aload_n dX12_layArrivals_218 rfl rfl ?_
    refine w_iload dX12_layArrivals_219 rfl ?_
    refine w_aload_n dX12_layArrivals_221 rfl rfl ?_
    refine w_getR dX12_layArrivals_222 fl_12_60 okC12 kd_261 (by decide) (by decide) rfl rf_261_27 ?_
    refine w_iload dX12_layArrivals_225 rfl ?_
    refine w_iald dX12_layArrivals_227 kd_278 (by decide) H.1 ?_
    replace H := H.2
    refine w_callV (st := [.int (I 278 t0.toNatClampNeg), .int t0, .ref 278]) (As := [.int l5, .int (I 278 l4.toNatClampNeg)]) dX12_layArrivals_228 ml_12_206 okX12_through kd_261 (by decide) rfl rfl rfl (Nat.le_of_ble_eq_true rfl) (by decide) (Nat.le_of_ble_eq_true rfl) (wc_i H (fun r2 I1 H => ?_))
    refine w_min dX12_layArrivals_231 ml_12_209 minS maI minC (by decide) (Nat.le_of_ble_eq_true rfl) ?_
    refine w_top fun x3 hx => ?_
    replace H := H x3 hx
    refine w_iast dX12_layArrivals_234 kd_278 (by decide) H.1 (w_up fun I4 hI => ?_)
    replace H := H.2 I4 hI
    skip
    exact H
set_option maxRecDepth 20000 in
theorem rX12_layArrivals_235 {l1 l2 l3 l4 l5 l6 : Int32} {I : MI} {Q : MI → Prop} (H : (LX12_layArrivals_142 l1 l2 l3 l4 (l5 + 1) I Q)) : LX12_layArrivals_235 l1 l2 l3 l4 l5 l6 I Q := by
  show WP mX12_layArrivals 286 Rf0 235 [some (.ref 261), some (.int l1), some (.int l2), some (.int l3), some (.int l4), some (.int l5), some (.int l6)] [] I (qv Q)
  refine w_iinc (v := l5 + 1) (ls' := [some (.ref 261), some (.int l1), some (.int l2), some (.int l3), some (.int l4), some (.int (l5 + 1)), some (.int l6)]) dX12_layArrivals_235 rfl rfl (by decide) rfl rfl ?_
  refine w_goto (t := 142) dX12_layArrivals_238 (by decide) ?_
  refine w_less (ls' := [some (.ref 261), some (.int l1), some (.int l2), some (.int l3), some (.int l4), some (.int (l5 + 1)), none]) (by simp [lsub]) ?_
  exact H
set_option maxRecDepth 20000 in
theorem rX12_layArrivals {a1 a2 : Int32} {I : MI} {Q : MI → Prop} (H : (LX12_layArrivals_2 a1 a2 0 I Q)) : Wv mX12_layArrivals [.ref 261, .int a1, .int a2] I Q := by
  show WP mX12_layArrivals 286 Rf0 0 [some (.ref 261), some (.int a1), some (.int a2), none, none, none, none] [] I (qv Q)
  refine w_iconst (v := 0) dX12_layArrivals_0 (by decide) ?_
  refine w_istore_n (ls' := [some (.ref 261), some (.int a1), some (.int a2), some (.int 0), none, none, none]) dX12_layArrivals_1 rfl (by decide) rfl rfl ?_
  skip
  exact H
theorem dX12_arrivalOf_0 : decode cX12_arrivalOf 0 = .ok (.aload_n 0, 1) := by decide +kernel
theorem dX12_arrivalOf_1 : decode cX12_arrivalOf 1 = .ok (.iload_n 1, 1) := by decide +kernel
theorem dX12_arrivalOf_2 : decode cX12_arrivalOf 2 = .ok (.iload_n 3, 1) := by decide +kernel
theorem dX12_arrivalOf_3 : decode cX12_arrivalOf 3 = .ok (.invokevirtual 214, 3) := by decide +kernel
theorem dX12_arrivalOf_6 : decode cX12_arrivalOf 6 = .ok (.aload_n 0, 1) := by decide +kernel
theorem dX12_arrivalOf_7 : decode cX12_arrivalOf 7 = .ok (.getfield 60, 3) := by decide +kernel
theorem dX12_arrivalOf_10 : decode cX12_arrivalOf 10 = .ok (.iload_n 2, 1) := by decide +kernel
theorem dX12_arrivalOf_11 : decode cX12_arrivalOf 11 = .ok (.iaload, 1) := by decide +kernel
theorem dX12_arrivalOf_12 : decode cX12_arrivalOf 12 = .ok (.ireturn, 1) := by decide +kernel
set_option maxRecDepth 20000 in
theorem rX12_arrivalOf {a1 a2 a3 : Int32} {I : MI} {Q : Int32 → MI → Prop} (H : (Wv mX12_layArrivals [.ref 261, .int a1, .int a3] I (fun I1 => (vp_in a2 10 ∧ Q (I1 278 a2.toNatClampNeg) I1)))) : Wi mX12_arrivalOf [.ref 261, .int a1, .int a2, .int a3] I Q := by
  show WP mX12_arrivalOf 286 Rf0 0 [some (.ref 261), some (.int a1), some (.int a2), some (.int a3)] [] I (qi Q)
  refine w_aload_n dX12_arrivalOf_0 rfl rfl ?_
  refine w_iload_n dX12_arrivalOf_1 rfl rfl ?_
  refine w_iload_n dX12_arrivalOf_2 rfl rfl ?_
  refine w_callV (st := []) (As := [.int a1, .int a3]) dX12_arrivalOf_3 ml_12_214 okX12_layArrivals kd_261 (by decide) rfl rfl rfl (Nat.le_of_ble_eq_true rfl) (by decide) (Nat.le_of_ble_eq_true rfl) (wc_v H (fun I1 H => ?_))
  refine w_aload_n dX12_arrivalOf_6 rfl rfl ?_
  refine w_getR dX12_arrivalOf_7 fl_12_60 okC12 kd_261 (by decide) (by decide) rfl rf_261_27 ?_
  refine w_iload_n dX12_arrivalOf_10 rfl rfl ?_
  refine w_iald dX12_arrivalOf_11 kd_278 (by decide) H.1 ?_
  replace H := H.2
  exact w_iret dX12_arrivalOf_12 rfl ⟨_, rfl, H⟩
theorem dX12_isOpen_0 : decode cX12_isOpen 0 = .ok (.aload_n 0, 1) := by decide +kernel
theorem dX12_isOpen_1 : decode cX12_isOpen 1 = .ok (.iconst 0, 1) := by decide +kernel
theorem dX12_isOpen_2 : decode cX12_isOpen 2 = .ok (.putfield 87, 3) := by decide +kernel
theorem dX12_isOpen_5 : decode cX12_isOpen 5 = .ok (.aload_n 0, 1) := by decide +kernel
theorem dX12_isOpen_6 : decode cX12_isOpen 6 = .ok (.iload_n 1, 1) := by decide +kernel
theorem dX12_isOpen_7 : decode cX12_isOpen 7 = .ok (.invokevirtual 218, 3) := by decide +kernel
theorem dX12_isOpen_10 : decode cX12_isOpen 10 = .ok (.ifCond .eq 7, 3) := by decide +kernel
theorem dX12_isOpen_13 : decode cX12_isOpen 13 = .ok (.iload_n 2, 1) := by decide +kernel
theorem dX12_isOpen_14 : decode cX12_isOpen 14 = .ok (.ifCond .ge 5, 3) := by decide +kernel
theorem dX12_isOpen_17 : decode cX12_isOpen 17 = .ok (.iconst (-1), 1) := by decide +kernel
theorem dX12_isOpen_18 : decode cX12_isOpen 18 = .ok (.ireturn, 1) := by decide +kernel
theorem dX12_isOpen_19 : decode cX12_isOpen 19 = .ok (.aload_n 0, 1) := by decide +kernel
theorem dX12_isOpen_20 : decode cX12_isOpen 20 = .ok (.getfield 47, 3) := by decide +kernel
theorem dX12_isOpen_23 : decode cX12_isOpen 23 = .ok (.bipush 97, 2) := by decide +kernel
theorem dX12_isOpen_25 : decode cX12_isOpen 25 = .ok (.iload_n 1, 1) := by decide +kernel
theorem dX12_isOpen_26 : decode cX12_isOpen 26 = .ok (.iadd, 1) := by decide +kernel
theorem dX12_isOpen_27 : decode cX12_isOpen 27 = .ok (.iaload, 1) := by decide +kernel
theorem dX12_isOpen_28 : decode cX12_isOpen 28 = .ok (.ifCond .lt 33, 3) := by decide +kernel
theorem dX12_isOpen_31 : decode cX12_isOpen 31 = .ok (.iload_n 2, 1) := by decide +kernel
theorem dX12_isOpen_32 : decode cX12_isOpen 32 = .ok (.i2l, 1) := by decide +kernel
theorem dX12_isOpen_33 : decode cX12_isOpen 33 = .ok (.aload_n 0, 1) := by decide +kernel
theorem dX12_isOpen_34 : decode cX12_isOpen 34 = .ok (.getfield 47, 3) := by decide +kernel
theorem dX12_isOpen_37 : decode cX12_isOpen 37 = .ok (.bipush 97, 2) := by decide +kernel
theorem dX12_isOpen_39 : decode cX12_isOpen 39 = .ok (.iload_n 1, 1) := by decide +kernel
theorem dX12_isOpen_40 : decode cX12_isOpen 40 = .ok (.iadd, 1) := by decide +kernel
theorem dX12_isOpen_41 : decode cX12_isOpen 41 = .ok (.iaload, 1) := by decide +kernel
theorem dX12_isOpen_42 : decode cX12_isOpen 42 = .ok (.i2l, 1) := by decide +kernel
theorem dX12_isOpen_43 : decode cX12_isOpen 43 = .ok (.aload_n 0, 1) := by decide +kernel
theorem dX12_isOpen_44 : decode cX12_isOpen 44 = .ok (.getfield 47, 3) := by decide +kernel
theorem dX12_isOpen_47 : decode cX12_isOpen 47 = .ok (.bipush 115, 2) := by decide +kernel
theorem dX12_isOpen_49 : decode cX12_isOpen 49 = .ok (.iload_n 1, 1) := by decide +kernel
theorem dX12_isOpen_50 : decode cX12_isOpen 50 = .ok (.iadd, 1) := by decide +kernel
theorem dX12_isOpen_51 : decode cX12_isOpen 51 = .ok (.iaload, 1) := by decide +kernel
theorem dX12_isOpen_52 : decode cX12_isOpen 52 = .ok (.iconst 1, 1) := by decide +kernel
theorem dX12_isOpen_53 : decode cX12_isOpen 53 = .ok (.isub, 1) := by decide +kernel
theorem dX12_isOpen_54 : decode cX12_isOpen 54 = .ok (.i2l, 1) := by decide +kernel
theorem dX12_isOpen_55 : decode cX12_isOpen 55 = .ok (.invokestatic 118, 3) := by decide +kernel
theorem dX12_isOpen_58 : decode cX12_isOpen 58 = .ok (.ifCond .eq 7, 3) := by decide +kernel
theorem dX12_isOpen_61 : decode cX12_isOpen 61 = .ok (.iconst 1, 1) := by decide +kernel
theorem dX12_isOpen_62 : decode cX12_isOpen 62 = .ok (.goto 4, 3) := by decide +kernel
theorem dX12_isOpen_65 : decode cX12_isOpen 65 = .ok (.iconst 0, 1) := by decide +kernel
theorem dX12_isOpen_66 : decode cX12_isOpen 66 = .ok (.ireturn, 1) := by decide +kernel
abbrev LX12_isOpen_61 (l1 l2 : Int32) (I : MI) (Q : Int32 → MI → Prop) : Prop := WP mX12_isOpen 286 Rf0 61 [some (.ref 261), some (.int l1), some (.int l2)] [] I (qi Q)
set_option maxRecDepth 20000 in
theorem rX12_isOpen_61 {l1 l2 : Int32} {I : MI} {Q : Int32 → MI → Prop} (H : (Q 1 I)) : LX12_isOpen_61 l1 l2 I Q := by
  show WP mX12_isOpen 286 Rf0 61 [some (.ref 261), some (.int l1), some (.int l2)] [] I (qi Q)
  refine w_iconst (v := 1) dX12_isOpen_61 (by decide) ?_
  refine w_goto (t := 66) dX12_isOpen_62 (by decide) ?_
  exact w_iret dX12_isOpen_66 rfl ⟨_, rfl, H⟩
set_option maxRecDepth 20000 in
theorem rX12_isOpen {a1 a2 : Int32} {I : MI} {Q : Int32 → MI → Prop} (H : (∀ I1 : MI, I1 = up2 I 261 0 0 → Wi mX12_isStreet [.ref 261, .int a1] I1 (fun r3 I2 => ((r3 = 0 → (Q (-1) I2)) ∧ (¬ r3 = 0 → ((0 ≤ a2 → (vp_in (97 + a1) 332 ∧ ((I2 274 (97 + a1).toNatClampNeg) < 0 → (LX12_isOpen_61 a1 a2 I2 Q)) ∧ (¬ (I2 274 (97 + a1).toNatClampNeg) < 0 → (vp_in (97 + a1) 332 ∧ vp_in (115 + a1) 332 ∧ Wi mX12_within [.long a2.toInt64, .long ((I2 274 (97 + a1).toNatClampNeg).toInt64), .long (((I2 274 (115 + a1).toNatClampNeg) - 1).toInt64)] I2 (fun r5 I4 => ((r5 = 0 → (Q 0 I4)) ∧ (¬ r5 = 0 → (LX12_isOpen_61 a1 a2 I4 Q)))))))) ∧ (¬ 0 ≤ a2 → (Q (-1) I2)))))))) : Wi mX12_isOpen [.ref 261, .int a1, .int a2] I Q := by
  show WP mX12_isOpen 286 Rf0 0 [some (.ref 261), some (.int a1), some (.int a2)] [] I (qi Q)
  refine w_aload_n dX12_isOpen_0 rfl rfl ?_
  refine w_iconst (v := 0) dX12_isOpen_1 (by decide) ?_
  refine w_putI dX12_isOpen_2 fl_12_87 okC12 kd_261 (by decide) (by decide) rfl rfl rfl (w_up fun I1 hI => ?_)
  replace H := H I1 hI
  refine w_aload_n dX12_isOpen_5 rfl rfl ?_
  refine w_iload_n dX12_isOpen_6 rfl rfl ?_
  refine w_callV (st := []) (As := [.int a1]) dX12_isOpen_7 ml_12_218 okX12_isStreet kd_261 (by decide) rfl rfl rfl (Nat.le_of_ble_eq_true rfl) (by decide) (Nat.le_of_ble_eq_true rfl) (wc_i H (fun r3 I2 H => ?_))
  refine w_if_eq (t := 17) dX12_isOpen_10 (by decide) (fun h => ?_) (fun h => ?_)
  · replace H := H.1 h
    refine w_iconst (v := (-1)) dX12_isOpen_17 (by decide) ?_
    exact w_iret dX12_isOpen_18 rfl ⟨_, rfl, H⟩
  · replace H := H.2 h
    refine w_iload_n dX12_isOpen_13 rfl rfl ?_
    refine w_if_ge (t := 19) dX12_isOpen_14 (by decide) (fun h => ?_) (fun h => ?_)
    · replace H := H.1 h
      refine w_aload_n dX12_isOpen_19 rfl rfl ?_
      refine w_getR dX12_isOpen_20 fl_12_47 okC12 kd_261 (by decide) (by decide) rfl rf_261_22 ?_
      refine w_bipush (v := 97) dX12_isOpen_23 (by decide) ?_
      refine w_iload_n dX12_isOpen_25 rfl rfl ?_
      refine w_iadd dX12_isOpen_26 ?_
      refine w_iald dX12_isOpen_27 kd_274 (by decide) H.1 ?_
      replace H := H.2
      refine w_if_lt (t := 61) dX12_isOpen_28 (by decide) (fun h => ?_) (fun h => ?_)
      · replace H := H.1 h
        skip
        exact H
      · replace H := H.2 h
        refine w_iload_n dX12_isOpen_31 rfl rfl ?_
        refine w_i2l dX12_isOpen_32 ?_
        refine w_aload_n dX12_isOpen_33 rfl rfl ?_
        refine w_getR dX12_isOpen_34 fl_12_47 okC12 kd_261 (by decide) (by decide) rfl rf_261_22 ?_
        refine w_bipush (v := 97) dX12_isOpen_37 (by decide) ?_
        refine w_iload_n dX12_isOpen_39 rfl rfl ?_
        refine w_iadd dX12_isOpen_40 ?_
        refine w_iald dX12_isOpen_41 kd_274 (by decide) H.1 ?_
        replace H := H.2
        refine w_i2l dX12_isOpen_42 ?_
        refine w_aload_n dX12_isOpen_43 rfl rfl ?_
        refine w_getR dX12_isOpen_44 fl_12_47 okC12 kd_261 (by decide) (by decide) rfl rf_261_22 ?_
        refine w_bipush (v := 115) dX12_isOpen_47 (by decide) ?_
        refine w_iload_n dX12_isOpen_49 rfl rfl ?_
        refine w_iadd dX12_isOpen_50 ?_
        refine w_iald dX12_isOpen_51 kd_274 (by decide) H.1 ?_
        replace H := H.2
        refine w_iconst (v := 1) dX12_isOpen_52 (by decide) ?_
        refine w_isub dX12_isOpen_53 ?_
        refine w_i2l dX12_isOpen_54 ?_
        refine w_callS (st := []) (As := [.long a2.toInt64, .long ((I2 274 (97 + a1).toNatClampNeg).toInt64), .long (((I2 274 (115 + a1).toNatClampNeg) - 1).toInt64)]) dX12_isOpen_55 ml_12_118 okX12_within rfl (Nat.le_of_ble_eq_true rfl) (by decide) (Nat.le_of_ble_eq_true rfl) (wc_i H (fun r5 I4 H => ?_))
        refine w_if_eq (t := 65) dX12_isOpen_58 (by decide) (fun h => ?_) (fun h => ?_)
        · replace H := H.1 h
          refine w_iconst (v := 0) dX12_isOpen_65 (by decide) ?_
          exact w_iret dX12_isOpen_66 rfl ⟨_, rfl, H⟩
        · replace H := H.2 h
          skip
          exact H
    · replace H := H.2 h
      refine w_iconst (v := (-1)) dX12_isOpen_17 (by decide) ?_
      exact w_iret dX12_isOpen_18 rfl ⟨_, rfl, H⟩
theorem dX12_arrival_0 : decode cX12_arrival 0 = .ok (.aload_n 0, 1) := by decide +kernel
theorem dX12_arrival_1 : decode cX12_arrival 1 = .ok (.iconst 0, 1) := by decide +kernel
theorem dX12_arrival_2 : decode cX12_arrival 2 = .ok (.putfield 87, 3) := by decide +kernel
theorem dX12_arrival_5 : decode cX12_arrival 5 = .ok (.aload_n 0, 1) := by decide +kernel
theorem dX12_arrival_6 : decode cX12_arrival 6 = .ok (.iload_n 1, 1) := by decide +kernel
theorem dX12_arrival_7 : decode cX12_arrival 7 = .ok (.invokevirtual 221, 3) := by decide +kernel
theorem dX12_arrival_10 : decode cX12_arrival 10 = .ok (.ifCond .eq 23, 3) := by decide +kernel
theorem dX12_arrival_13 : decode cX12_arrival 13 = .ok (.aload_n 0, 1) := by decide +kernel
theorem dX12_arrival_14 : decode cX12_arrival 14 = .ok (.iload_n 2, 1) := by decide +kernel
theorem dX12_arrival_15 : decode cX12_arrival 15 = .ok (.invokevirtual 221, 3) := by decide +kernel
theorem dX12_arrival_18 : decode cX12_arrival 18 = .ok (.ifCond .eq 15, 3) := by decide +kernel
theorem dX12_arrival_21 : decode cX12_arrival 21 = .ok (.iload_n 3, 1) := by decide +kernel
theorem dX12_arrival_22 : decode cX12_arrival 22 = .ok (.i2l, 1) := by decide +kernel
theorem dX12_arrival_23 : decode cX12_arrival 23 = .ok (.lconst 0, 1) := by decide +kernel
theorem dX12_arrival_24 : decode cX12_arrival 24 = .ok (.ldc2_w 224, 3) := by decide +kernel
theorem dX12_arrival_27 : decode cX12_arrival 27 = .ok (.invokestatic 118, 3) := by decide +kernel
theorem dX12_arrival_30 : decode cX12_arrival 30 = .ok (.ifCond .ne 5, 3) := by decide +kernel
theorem dX12_arrival_33 : decode cX12_arrival 33 = .ok (.iconst (-1), 1) := by decide +kernel
theorem dX12_arrival_34 : decode cX12_arrival 34 = .ok (.ireturn, 1) := by decide +kernel
theorem dX12_arrival_35 : decode cX12_arrival 35 = .ok (.aload_n 0, 1) := by decide +kernel
theorem dX12_arrival_36 : decode cX12_arrival 36 = .ok (.iload_n 1, 1) := by decide +kernel
theorem dX12_arrival_37 : decode cX12_arrival 37 = .ok (.iload_n 2, 1) := by decide +kernel
theorem dX12_arrival_38 : decode cX12_arrival 38 = .ok (.iload_n 3, 1) := by decide +kernel
theorem dX12_arrival_39 : decode cX12_arrival 39 = .ok (.invokevirtual 226, 3) := by decide +kernel
theorem dX12_arrival_42 : decode cX12_arrival 42 = .ok (.istore 4, 2) := by decide +kernel
theorem dX12_arrival_44 : decode cX12_arrival 44 = .ok (.iload 4, 2) := by decide +kernel
theorem dX12_arrival_46 : decode cX12_arrival 46 = .ok (.ldc 205, 2) := by decide +kernel
theorem dX12_arrival_48 : decode cX12_arrival 48 = .ok (.if_icmp .ne 8, 3) := by decide +kernel
theorem dX12_arrival_51 : decode cX12_arrival 51 = .ok (.bipush (-2), 2) := by decide +kernel
theorem dX12_arrival_53 : decode cX12_arrival 53 = .ok (.goto 5, 3) := by decide +kernel
theorem dX12_arrival_56 : decode cX12_arrival 56 = .ok (.iload 4, 2) := by decide +kernel
theorem dX12_arrival_58 : decode cX12_arrival 58 = .ok (.ireturn, 1) := by decide +kernel
set_option maxRecDepth 20000 in
theorem rX12_arrival {a1 a2 a3 : Int32} {I : MI} {Q : Int32 → MI → Prop} (H : (∀ I1 : MI, I1 = up2 I 261 0 0 → Wi mX12_isNode [.ref 261, .int a1] I1 (fun r3 I2 => ((r3 = 0 → (Q (-1) I2)) ∧ (¬ r3 = 0 → (Wi mX12_isNode [.ref 261, .int a2] I2 (fun r5 I4 => ((r5 = 0 → (Q (-1) I4)) ∧ (¬ r5 = 0 → (Wi mX12_within [.long a3.toInt64, .long 0, .long 9999] I4 (fun r7 I6 => ((¬ r7 = 0 → (Wi mX12_arrivalOf [.ref 261, .int a1, .int a2, .int a3] I6 (fun r9 I8 => ((¬ r9 = 1000000000 → (Q r9 I8)) ∧ (r9 = 1000000000 → (Q (-2) I8)))))) ∧ (r7 = 0 → (Q (-1) I6)))))))))))))) : Wi mX12_arrival [.ref 261, .int a1, .int a2, .int a3] I Q := by
  show WP mX12_arrival 286 Rf0 0 [some (.ref 261), some (.int a1), some (.int a2), some (.int a3), none] [] I (qi Q)
  refine w_aload_n dX12_arrival_0 rfl rfl ?_
  refine w_iconst (v := 0) dX12_arrival_1 (by decide) ?_
  refine w_putI dX12_arrival_2 fl_12_87 okC12 kd_261 (by decide) (by decide) rfl rfl rfl (w_up fun I1 hI => ?_)
  replace H := H I1 hI
  refine w_aload_n dX12_arrival_5 rfl rfl ?_
  refine w_iload_n dX12_arrival_6 rfl rfl ?_
  refine w_callV (st := []) (As := [.int a1]) dX12_arrival_7 ml_12_221 okX12_isNode kd_261 (by decide) rfl rfl rfl (Nat.le_of_ble_eq_true rfl) (by decide) (Nat.le_of_ble_eq_true rfl) (wc_i H (fun r3 I2 H => ?_))
  refine w_if_eq (t := 33) dX12_arrival_10 (by decide) (fun h => ?_) (fun h => ?_)
  · replace H := H.1 h
    refine w_iconst (v := (-1)) dX12_arrival_33 (by decide) ?_
    exact w_iret dX12_arrival_34 rfl ⟨_, rfl, H⟩
  · replace H := H.2 h
    refine w_aload_n dX12_arrival_13 rfl rfl ?_
    refine w_iload_n dX12_arrival_14 rfl rfl ?_
    refine w_callV (st := []) (As := [.int a2]) dX12_arrival_15 ml_12_221 okX12_isNode kd_261 (by decide) rfl rfl rfl (Nat.le_of_ble_eq_true rfl) (by decide) (Nat.le_of_ble_eq_true rfl) (wc_i H (fun r5 I4 H => ?_))
    refine w_if_eq (t := 33) dX12_arrival_18 (by decide) (fun h => ?_) (fun h => ?_)
    · replace H := H.1 h
      refine w_iconst (v := (-1)) dX12_arrival_33 (by decide) ?_
      exact w_iret dX12_arrival_34 rfl ⟨_, rfl, H⟩
    · replace H := H.2 h
      refine w_iload_n dX12_arrival_21 rfl rfl ?_
      refine w_i2l dX12_arrival_22 ?_
      refine w_lconst (v := 0) dX12_arrival_23 (by decide) ?_
      refine w_ldc2 (v := 9999) dX12_arrival_24 kl_12_224 ?_
      refine w_callS (st := []) (As := [.long a3.toInt64, .long 0, .long 9999]) dX12_arrival_27 ml_12_118 okX12_within rfl (Nat.le_of_ble_eq_true rfl) (by decide) (Nat.le_of_ble_eq_true rfl) (wc_i H (fun r7 I6 H => ?_))
      refine w_if_ne (t := 35) dX12_arrival_30 (by decide) (fun h => ?_) (fun h => ?_)
      · replace H := H.1 h
        refine w_aload_n dX12_arrival_35 rfl rfl ?_
        refine w_iload_n dX12_arrival_36 rfl rfl ?_
        refine w_iload_n dX12_arrival_37 rfl rfl ?_
        refine w_iload_n dX12_arrival_38 rfl rfl ?_
        refine w_callV (st := []) (As := [.int a1, .int a2, .int a3]) dX12_arrival_39 ml_12_226 okX12_arrivalOf kd_261 (by decide) rfl rfl rfl (Nat.le_of_ble_eq_true rfl) (by decide) (Nat.le_of_ble_eq_true rfl) (wc_i H (fun r9 I8 H => ?_))
        refine w_istore (ls' := [some (.ref 261), some (.int a1), some (.int a2), some (.int a3), some (.int r9)]) dX12_arrival_42 (by decide) rfl rfl ?_
        refine w_iload dX12_arrival_44 rfl ?_
        refine w_ldc (v := 1000000000) dX12_arrival_46 kl_12_205 ?_
        refine w_icmp_ne (t := 56) dX12_arrival_48 (by decide) (fun h => ?_) (fun h => ?_)
        · replace H := H.1 h
          refine w_iload dX12_arrival_56 rfl ?_
          exact w_iret dX12_arrival_58 rfl ⟨_, rfl, H⟩
        · replace H := H.2 h
          refine w_bipush (v := (-2)) dX12_arrival_51 (by decide) ?_
          refine w_goto (t := 58) dX12_arrival_53 (by decide) ?_
          exact w_iret dX12_arrival_58 rfl ⟨_, rfl, H⟩
      · replace H := H.2 h
        refine w_iconst (v := (-1)) dX12_arrival_33 (by decide) ?_
        exact w_iret dX12_arrival_34 rfl ⟨_, rfl, H⟩
theorem dX12_demandOf_0 : decode cX12_demandOf 0 = .ok (.aload_n 0, 1) := by decide +kernel
theorem dX12_demandOf_1 : decode cX12_demandOf 1 = .ok (.getfield 47, 3) := by decide +kernel
theorem dX12_demandOf_4 : decode cX12_demandOf 4 = .ok (.sipush 133, 3) := by decide +kernel
theorem dX12_demandOf_7 : decode cX12_demandOf 7 = .ok (.iload_n 1, 1) := by decide +kernel
theorem dX12_demandOf_8 : decode cX12_demandOf 8 = .ok (.iadd, 1) := by decide +kernel
theorem dX12_demandOf_9 : decode cX12_demandOf 9 = .ok (.iaload, 1) := by decide +kernel
theorem dX12_demandOf_10 : decode cX12_demandOf 10 = .ok (.iconst 1, 1) := by decide +kernel
theorem dX12_demandOf_11 : decode cX12_demandOf 11 = .ok (.if_icmp .ne 7, 3) := by decide +kernel
theorem dX12_demandOf_14 : decode cX12_demandOf 14 = .ok (.iconst 0, 1) := by decide +kernel
theorem dX12_demandOf_15 : decode cX12_demandOf 15 = .ok (.goto 24, 3) := by decide +kernel
theorem dX12_demandOf_18 : decode cX12_demandOf 18 = .ok (.aload_n 0, 1) := by decide +kernel
theorem dX12_demandOf_19 : decode cX12_demandOf 19 = .ok (.getfield 47, 3) := by decide +kernel
theorem dX12_demandOf_22 : decode cX12_demandOf 22 = .ok (.iconst 1, 1) := by decide +kernel
theorem dX12_demandOf_23 : decode cX12_demandOf 23 = .ok (.bipush 7, 2) := by decide +kernel
theorem dX12_demandOf_25 : decode cX12_demandOf 25 = .ok (.iload_n 1, 1) := by decide +kernel
theorem dX12_demandOf_26 : decode cX12_demandOf 26 = .ok (.imul, 1) := by decide +kernel
theorem dX12_demandOf_27 : decode cX12_demandOf 27 = .ok (.iadd, 1) := by decide +kernel
theorem dX12_demandOf_28 : decode cX12_demandOf 28 = .ok (.aload_n 0, 1) := by decide +kernel
theorem dX12_demandOf_29 : decode cX12_demandOf 29 = .ok (.getfield 47, 3) := by decide +kernel
theorem dX12_demandOf_32 : decode cX12_demandOf 32 = .ok (.iconst 0, 1) := by decide +kernel
theorem dX12_demandOf_33 : decode cX12_demandOf 33 = .ok (.iaload, 1) := by decide +kernel
theorem dX12_demandOf_34 : decode cX12_demandOf 34 = .ok (.bipush 7, 2) := by decide +kernel
theorem dX12_demandOf_36 : decode cX12_demandOf 36 = .ok (.irem, 1) := by decide +kernel
theorem dX12_demandOf_37 : decode cX12_demandOf 37 = .ok (.iadd, 1) := by decide +kernel
theorem dX12_demandOf_38 : decode cX12_demandOf 38 = .ok (.iaload, 1) := by decide +kernel
theorem dX12_demandOf_39 : decode cX12_demandOf 39 = .ok (.ireturn, 1) := by decide +kernel
set_option maxRecDepth 20000 in
theorem rX12_demandOf {a1 : Int32} {I : MI} {Q : Int32 → MI → Prop} (H : (vp_in (133 + a1) 332 ∧ (¬ (I 274 (133 + a1).toNatClampNeg) = 1 → (vp_in 0 332 ∧ vp_in ((1 + (7 * a1)) + ((I 274 (0 : Int32).toNatClampNeg) - (I 274 (0 : Int32).toNatClampNeg) / 7 * 7)) 332 ∧ Q (I 274 ((1 + (7 * a1)) + ((I 274 (0 : Int32).toNatClampNeg) - (I 274 (0 : Int32).toNatClampNeg) / 7 * 7)).toNatClampNeg) I)) ∧ ((I 274 (133 + a1).toNatClampNeg) = 1 → (Q 0 I)))) : Wi mX12_demandOf [.ref 261, .int a1] I Q := by
  show WP mX12_demandOf 286 Rf0 0 [some (.ref 261), some (.int a1)] [] I (qi Q)
  refine w_aload_n dX12_demandOf_0 rfl rfl ?_
  refine w_getR dX12_demandOf_1 fl_12_47 okC12 kd_261 (by decide) (by decide) rfl rf_261_22 ?_
  refine w_sipush (v := 133) dX12_demandOf_4 (by decide) ?_
  refine w_iload_n dX12_demandOf_7 rfl rfl ?_
  refine w_iadd dX12_demandOf_8 ?_
  refine w_iald dX12_demandOf_9 kd_274 (by decide) H.1 ?_
  replace H := H.2
  refine w_iconst (v := 1) dX12_demandOf_10 (by decide) ?_
  refine w_icmp_ne (t := 18) dX12_demandOf_11 (by decide) (fun h => ?_) (fun h => ?_)
  · replace H := H.1 h
    refine w_aload_n dX12_demandOf_18 rfl rfl ?_
    refine w_getR dX12_demandOf_19 fl_12_47 okC12 kd_261 (by decide) (by decide) rfl rf_261_22 ?_
    refine w_iconst (v := 1) dX12_demandOf_22 (by decide) ?_
    refine w_bipush (v := 7) dX12_demandOf_23 (by decide) ?_
    refine w_iload_n dX12_demandOf_25 rfl rfl ?_
    refine w_imul dX12_demandOf_26 ?_
    refine w_iadd dX12_demandOf_27 ?_
    refine w_aload_n dX12_demandOf_28 rfl rfl ?_
    refine w_getR dX12_demandOf_29 fl_12_47 okC12 kd_261 (by decide) (by decide) rfl rf_261_22 ?_
    refine w_iconst (v := 0) dX12_demandOf_32 (by decide) ?_
    refine w_iald dX12_demandOf_33 kd_274 (by decide) H.1 ?_
    replace H := H.2
    refine w_bipush (v := 7) dX12_demandOf_34 (by decide) ?_
    refine w_irem dX12_demandOf_36 (by decide) ?_
    refine w_iadd dX12_demandOf_37 ?_
    refine w_iald dX12_demandOf_38 kd_274 (by decide) H.1 ?_
    replace H := H.2
    exact w_iret dX12_demandOf_39 rfl ⟨_, rfl, H⟩
  · replace H := H.2 h
    refine w_iconst (v := 0) dX12_demandOf_14 (by decide) ?_
    refine w_goto (t := 39) dX12_demandOf_15 (by decide) ?_
    exact w_iret dX12_demandOf_39 rfl ⟨_, rfl, H⟩
theorem dX12_demand_0 : decode cX12_demand 0 = .ok (.aload_n 0, 1) := by decide +kernel
theorem dX12_demand_1 : decode cX12_demand 1 = .ok (.iconst 0, 1) := by decide +kernel
theorem dX12_demand_2 : decode cX12_demand 2 = .ok (.putfield 87, 3) := by decide +kernel
theorem dX12_demand_5 : decode cX12_demand 5 = .ok (.aload_n 0, 1) := by decide +kernel
theorem dX12_demand_6 : decode cX12_demand 6 = .ok (.iload_n 1, 1) := by decide +kernel
theorem dX12_demand_7 : decode cX12_demand 7 = .ok (.invokevirtual 199, 3) := by decide +kernel
theorem dX12_demand_10 : decode cX12_demand 10 = .ok (.ifCond .eq 11, 3) := by decide +kernel
theorem dX12_demand_13 : decode cX12_demand 13 = .ok (.aload_n 0, 1) := by decide +kernel
theorem dX12_demand_14 : decode cX12_demand 14 = .ok (.iload_n 1, 1) := by decide +kernel
theorem dX12_demand_15 : decode cX12_demand 15 = .ok (.invokevirtual 230, 3) := by decide +kernel
theorem dX12_demand_18 : decode cX12_demand 18 = .ok (.goto 4, 3) := by decide +kernel
theorem dX12_demand_21 : decode cX12_demand 21 = .ok (.iconst (-1), 1) := by decide +kernel
theorem dX12_demand_22 : decode cX12_demand 22 = .ok (.ireturn, 1) := by decide +kernel
set_option maxRecDepth 20000 in
theorem rX12_demand {a1 : Int32} {I : MI} {Q : Int32 → MI → Prop} (H : (∀ I1 : MI, I1 = up2 I 261 0 0 → Wi mX12_isHouse [.ref 261, .int a1] I1 (fun r3 I2 => ((r3 = 0 → (Q (-1) I2)) ∧ (¬ r3 = 0 → (Wi mX12_demandOf [.ref 261, .int a1] I2 (fun r5 I4 => (Q r5 I4)))))))) : Wi mX12_demand [.ref 261, .int a1] I Q := by
  show WP mX12_demand 286 Rf0 0 [some (.ref 261), some (.int a1)] [] I (qi Q)
  refine w_aload_n dX12_demand_0 rfl rfl ?_
  refine w_iconst (v := 0) dX12_demand_1 (by decide) ?_
  refine w_putI dX12_demand_2 fl_12_87 okC12 kd_261 (by decide) (by decide) rfl rfl rfl (w_up fun I1 hI => ?_)
  replace H := H I1 hI
  refine w_aload_n dX12_demand_5 rfl rfl ?_
  refine w_iload_n dX12_demand_6 rfl rfl ?_
  refine w_callV (st := []) (As := [.int a1]) dX12_demand_7 ml_12_199 okX12_isHouse kd_261 (by decide) rfl rfl rfl (Nat.le_of_ble_eq_true rfl) (by decide) (Nat.le_of_ble_eq_true rfl) (wc_i H (fun r3 I2 H => ?_))
  refine w_if_eq (t := 21) dX12_demand_10 (by decide) (fun h => ?_) (fun h => ?_)
  · replace H := H.1 h
    refine w_iconst (v := (-1)) dX12_demand_21 (by decide) ?_
    exact w_iret dX12_demand_22 rfl ⟨_, rfl, H⟩
  · replace H := H.2 h
    refine w_aload_n dX12_demand_13 rfl rfl ?_
    refine w_iload_n dX12_demand_14 rfl rfl ?_
    refine w_callV (st := []) (As := [.int a1]) dX12_demand_15 ml_12_230 okX12_demandOf kd_261 (by decide) rfl rfl rfl (Nat.le_of_ble_eq_true rfl) (by decide) (Nat.le_of_ble_eq_true rfl) (wc_i H (fun r5 I4 H => ?_))
    refine w_goto (t := 22) dX12_demand_18 (by decide) ?_
    exact w_iret dX12_demand_22 rfl ⟨_, rfl, H⟩
theorem dX12_totalOf_0 : decode cX12_totalOf 0 = .ok (.iconst 0, 1) := by decide +kernel
theorem dX12_totalOf_1 : decode cX12_totalOf 1 = .ok (.istore_n 1, 1) := by decide +kernel
theorem dX12_totalOf_2 : decode cX12_totalOf 2 = .ok (.iconst 0, 1) := by decide +kernel
theorem dX12_totalOf_3 : decode cX12_totalOf 3 = .ok (.istore_n 2, 1) := by decide +kernel
theorem dX12_totalOf_4 : decode cX12_totalOf 4 = .ok (.iload_n 2, 1) := by decide +kernel
theorem dX12_totalOf_5 : decode cX12_totalOf 5 = .ok (.aload_n 0, 1) := by decide +kernel
theorem dX12_totalOf_6 : decode cX12_totalOf 6 = .ok (.getfield 13, 3) := by decide +kernel
theorem dX12_totalOf_9 : decode cX12_totalOf 9 = .ok (.bipush 6, 2) := by decide +kernel
theorem dX12_totalOf_11 : decode cX12_totalOf 11 = .ok (.iaload, 1) := by decide +kernel
theorem dX12_totalOf_12 : decode cX12_totalOf 12 = .ok (.if_icmp .ge 17, 3) := by decide +kernel
theorem dX12_totalOf_15 : decode cX12_totalOf 15 = .ok (.iload_n 1, 1) := by decide +kernel
theorem dX12_totalOf_16 : decode cX12_totalOf 16 = .ok (.aload_n 0, 1) := by decide +kernel
theorem dX12_totalOf_17 : decode cX12_totalOf 17 = .ok (.iload_n 2, 1) := by decide +kernel
theorem dX12_totalOf_18 : decode cX12_totalOf 18 = .ok (.invokevirtual 230, 3) := by decide +kernel
theorem dX12_totalOf_21 : decode cX12_totalOf 21 = .ok (.iadd, 1) := by decide +kernel
theorem dX12_totalOf_22 : decode cX12_totalOf 22 = .ok (.istore_n 1, 1) := by decide +kernel
theorem dX12_totalOf_23 : decode cX12_totalOf 23 = .ok (.iinc 2 1, 3) := by decide +kernel
theorem dX12_totalOf_26 : decode cX12_totalOf 26 = .ok (.goto (-22), 3) := by decide +kernel
theorem dX12_totalOf_29 : decode cX12_totalOf 29 = .ok (.iload_n 1, 1) := by decide +kernel
theorem dX12_totalOf_30 : decode cX12_totalOf 30 = .ok (.ireturn, 1) := by decide +kernel
abbrev LX12_totalOf_4 (l1 l2 : Int32) (I : MI) (Q : Int32 → MI → Prop) : Prop := WP mX12_totalOf 286 Rf0 4 [some (.ref 261), some (.int l1), some (.int l2)] [] I (qi Q)
set_option maxRecDepth 20000 in
theorem rX12_totalOf_4 {l1 l2 : Int32} {I : MI} {Q : Int32 → MI → Prop} (H : (vp_in 6 7 ∧ ((I 263 (6 : Int32).toNatClampNeg) ≤ l2 → (Q l1 I)) ∧ (¬ (I 263 (6 : Int32).toNatClampNeg) ≤ l2 → (Wi mX12_demandOf [.ref 261, .int l2] I (fun r2 I1 => (LX12_totalOf_4 (l1 + r2) (l2 + 1) I1 Q)))))) : LX12_totalOf_4 l1 l2 I Q := by
  show WP mX12_totalOf 286 Rf0 4 [some (.ref 261), some (.int l1), some (.int l2)] [] I (qi Q)
  refine w_iload_n dX12_totalOf_4 rfl rfl ?_
  refine w_aload_n dX12_totalOf_5 rfl rfl ?_
  refine w_getR dX12_totalOf_6 fl_12_13 okC12 kd_261 (by decide) (by decide) rfl rf_261_10 ?_
  refine w_bipush (v := 6) dX12_totalOf_9 (by decide) ?_
  refine w_iald dX12_totalOf_11 kd_263 (by decide) H.1 ?_
  replace H := H.2
  refine w_icmp_ge (t := 29) dX12_totalOf_12 (by decide) (fun h => ?_) (fun h => ?_)
  · replace H := H.1 h
    refine w_iload_n dX12_totalOf_29 rfl rfl ?_
    exact w_iret dX12_totalOf_30 rfl ⟨_, rfl, H⟩
  · replace H := H.2 h
    refine w_iload_n dX12_totalOf_15 rfl rfl ?_
    refine w_aload_n dX12_totalOf_16 rfl rfl ?_
    refine w_iload_n dX12_totalOf_17 rfl rfl ?_
    refine w_callV (st := [.int l1]) (As := [.int l2]) dX12_totalOf_18 ml_12_230 okX12_demandOf kd_261 (by decide) rfl rfl rfl (Nat.le_of_ble_eq_true rfl) (by decide) (Nat.le_of_ble_eq_true rfl) (wc_i H (fun r2 I1 H => ?_))
    refine w_iadd dX12_totalOf_21 ?_
    refine w_istore_n (ls' := [some (.ref 261), some (.int (l1 + r2)), some (.int l2)]) dX12_totalOf_22 rfl (by decide) rfl rfl ?_
    refine w_iinc (v := l2 + 1) (ls' := [some (.ref 261), some (.int (l1 + r2)), some (.int (l2 + 1))]) dX12_totalOf_23 rfl rfl (by decide) rfl rfl ?_
    refine w_goto (t := 4) dX12_totalOf_26 (by decide) ?_
    skip
    exact H
set_option maxRecDepth 20000 in
theorem rX12_totalOf {I : MI} {Q : Int32 → MI → Prop} (H : (LX12_totalOf_4 0 0 I Q)) : Wi mX12_totalOf [.ref 261] I Q := by
  show WP mX12_totalOf 286 Rf0 0 [some (.ref 261), none, none] [] I (qi Q)
  refine w_iconst (v := 0) dX12_totalOf_0 (by decide) ?_
  refine w_istore_n (ls' := [some (.ref 261), some (.int 0), none]) dX12_totalOf_1 rfl (by decide) rfl rfl ?_
  refine w_iconst (v := 0) dX12_totalOf_2 (by decide) ?_
  refine w_istore_n (ls' := [some (.ref 261), some (.int 0), some (.int 0)]) dX12_totalOf_3 rfl (by decide) rfl rfl ?_
  skip
  exact H
theorem dX12_totalDemand_0 : decode cX12_totalDemand 0 = .ok (.aload_n 0, 1) := by decide +kernel
theorem dX12_totalDemand_1 : decode cX12_totalDemand 1 = .ok (.iconst 0, 1) := by decide +kernel
theorem dX12_totalDemand_2 : decode cX12_totalDemand 2 = .ok (.putfield 87, 3) := by decide +kernel
theorem dX12_totalDemand_5 : decode cX12_totalDemand 5 = .ok (.aload_n 0, 1) := by decide +kernel
theorem dX12_totalDemand_6 : decode cX12_totalDemand 6 = .ok (.invokevirtual 233, 3) := by decide +kernel
theorem dX12_totalDemand_9 : decode cX12_totalDemand 9 = .ok (.ireturn, 1) := by decide +kernel
set_option maxRecDepth 20000 in
theorem rX12_totalDemand {I : MI} {Q : Int32 → MI → Prop} (H : (∀ I1 : MI, I1 = up2 I 261 0 0 → Wi mX12_totalOf [.ref 261] I1 (fun r3 I2 => (Q r3 I2)))) : Wi mX12_totalDemand [.ref 261] I Q := by
  show WP mX12_totalDemand 286 Rf0 0 [some (.ref 261)] [] I (qi Q)
  refine w_aload_n dX12_totalDemand_0 rfl rfl ?_
  refine w_iconst (v := 0) dX12_totalDemand_1 (by decide) ?_
  refine w_putI dX12_totalDemand_2 fl_12_87 okC12 kd_261 (by decide) (by decide) rfl rfl rfl (w_up fun I1 hI => ?_)
  replace H := H I1 hI
  refine w_aload_n dX12_totalDemand_5 rfl rfl ?_
  refine w_callV (st := []) (As := []) dX12_totalDemand_6 ml_12_233 okX12_totalOf kd_261 (by decide) rfl rfl rfl (Nat.le_of_ble_eq_true rfl) (by decide) (Nat.le_of_ble_eq_true rfl) (wc_i H (fun r3 I2 H => ?_))
  exact w_iret dX12_totalDemand_9 rfl ⟨_, rfl, H⟩
theorem dX12_stopSet_0 : decode cX12_stopSet 0 = .ok (.iconst 0, 1) := by decide +kernel
theorem dX12_stopSet_1 : decode cX12_stopSet 1 = .ok (.istore_n 1, 1) := by decide +kernel
theorem dX12_stopSet_2 : decode cX12_stopSet 2 = .ok (.iconst 0, 1) := by decide +kernel
theorem dX12_stopSet_3 : decode cX12_stopSet 3 = .ok (.istore_n 2, 1) := by decide +kernel
theorem dX12_stopSet_4 : decode cX12_stopSet 4 = .ok (.iload_n 2, 1) := by decide +kernel
theorem dX12_stopSet_5 : decode cX12_stopSet 5 = .ok (.aload_n 0, 1) := by decide +kernel
theorem dX12_stopSet_6 : decode cX12_stopSet 6 = .ok (.getfield 13, 3) := by decide +kernel
theorem dX12_stopSet_9 : decode cX12_stopSet 9 = .ok (.bipush 6, 2) := by decide +kernel
theorem dX12_stopSet_11 : decode cX12_stopSet 11 = .ok (.iaload, 1) := by decide +kernel
theorem dX12_stopSet_12 : decode cX12_stopSet 12 = .ok (.if_icmp .ge 28, 3) := by decide +kernel
theorem dX12_stopSet_15 : decode cX12_stopSet 15 = .ok (.aload_n 0, 1) := by decide +kernel
theorem dX12_stopSet_16 : decode cX12_stopSet 16 = .ok (.iload_n 2, 1) := by decide +kernel
theorem dX12_stopSet_17 : decode cX12_stopSet 17 = .ok (.invokevirtual 230, 3) := by decide +kernel
theorem dX12_stopSet_20 : decode cX12_stopSet 20 = .ok (.ifCond .le 14, 3) := by decide +kernel
theorem dX12_stopSet_23 : decode cX12_stopSet 23 = .ok (.iload_n 1, 1) := by decide +kernel
theorem dX12_stopSet_24 : decode cX12_stopSet 24 = .ok (.iconst 1, 1) := by decide +kernel
theorem dX12_stopSet_25 : decode cX12_stopSet 25 = .ok (.aload_n 0, 1) := by decide +kernel
theorem dX12_stopSet_26 : decode cX12_stopSet 26 = .ok (.getfield 35, 3) := by decide +kernel
theorem dX12_stopSet_29 : decode cX12_stopSet 29 = .ok (.iload_n 2, 1) := by decide +kernel
theorem dX12_stopSet_30 : decode cX12_stopSet 30 = .ok (.iaload, 1) := by decide +kernel
theorem dX12_stopSet_31 : decode cX12_stopSet 31 = .ok (.ishl, 1) := by decide +kernel
theorem dX12_stopSet_32 : decode cX12_stopSet 32 = .ok (.ior, 1) := by decide +kernel
theorem dX12_stopSet_33 : decode cX12_stopSet 33 = .ok (.istore_n 1, 1) := by decide +kernel
theorem dX12_stopSet_34 : decode cX12_stopSet 34 = .ok (.iinc 2 1, 3) := by decide +kernel
theorem dX12_stopSet_37 : decode cX12_stopSet 37 = .ok (.goto (-33), 3) := by decide +kernel
theorem dX12_stopSet_40 : decode cX12_stopSet 40 = .ok (.iload_n 1, 1) := by decide +kernel
theorem dX12_stopSet_41 : decode cX12_stopSet 41 = .ok (.ireturn, 1) := by decide +kernel
abbrev LX12_stopSet_4 (l1 l2 : Int32) (I : MI) (Q : Int32 → MI → Prop) : Prop := WP mX12_stopSet 286 Rf0 4 [some (.ref 261), some (.int l1), some (.int l2)] [] I (qi Q)
abbrev LX12_stopSet_34 (l1 l2 : Int32) (I : MI) (Q : Int32 → MI → Prop) : Prop := WP mX12_stopSet 286 Rf0 34 [some (.ref 261), some (.int l1), some (.int l2)] [] I (qi Q)
set_option maxRecDepth 20000 in
theorem rX12_stopSet_4 {l1 l2 : Int32} {I : MI} {Q : Int32 → MI → Prop} (H : (vp_in 6 7 ∧ ((I 263 (6 : Int32).toNatClampNeg) ≤ l2 → (Q l1 I)) ∧ (¬ (I 263 (6 : Int32).toNatClampNeg) ≤ l2 → (Wi mX12_demandOf [.ref 261, .int l2] I (fun r2 I1 => ((r2 ≤ 0 → (LX12_stopSet_34 l1 l2 I1 Q)) ∧ (¬ r2 ≤ 0 → (vp_in l2 24 ∧ LX12_stopSet_34 (l1 ||| ((1 : Int32) <<< ((I1 270 l2.toNatClampNeg) &&& 31))) l2 I1 Q)))))))) : LX12_stopSet_4 l1 l2 I Q := by
  show WP mX12_stopSet 286 Rf0 4 [some (.ref 261), some (.int l1), some (.int l2)] [] I (qi Q)
  refine w_iload_n dX12_stopSet_4 rfl rfl ?_
  refine w_aload_n dX12_stopSet_5 rfl rfl ?_
  refine w_getR dX12_stopSet_6 fl_12_13 okC12 kd_261 (by decide) (by decide) rfl rf_261_10 ?_
  refine w_bipush (v := 6) dX12_stopSet_9 (by decide) ?_
  refine w_iald dX12_stopSet_11 kd_263 (by decide) H.1 ?_
  replace H := H.2
  refine w_icmp_ge (t := 40) dX12_stopSet_12 (by decide) (fun h => ?_) (fun h => ?_)
  · replace H := H.1 h
    refine w_iload_n dX12_stopSet_40 rfl rfl ?_
    exact w_iret dX12_stopSet_41 rfl ⟨_, rfl, H⟩
  · replace H := H.2 h
    refine w_aload_n dX12_stopSet_15 rfl rfl ?_
    refine w_iload_n dX12_stopSet_16 rfl rfl ?_
    refine w_callV (st := []) (As := [.int l2]) dX12_stopSet_17 ml_12_230 okX12_demandOf kd_261 (by decide) rfl rfl rfl (Nat.le_of_ble_eq_true rfl) (by decide) (Nat.le_of_ble_eq_true rfl) (wc_i H (fun r2 I1 H => ?_))
    refine w_if_le (t := 34) dX12_stopSet_20 (by decide) (fun h => ?_) (fun h => ?_)
    · replace H := H.1 h
      skip
      exact H
    · replace H := H.2 h
      refine w_iload_n dX12_stopSet_23 rfl rfl ?_
      refine w_iconst (v := 1) dX12_stopSet_24 (by decide) ?_
      refine w_aload_n dX12_stopSet_25 rfl rfl ?_
      refine w_getR dX12_stopSet_26 fl_12_35 okC12 kd_261 (by decide) (by decide) rfl rf_261_17 ?_
      refine w_iload_n dX12_stopSet_29 rfl rfl ?_
      refine w_iald dX12_stopSet_30 kd_270 (by decide) H.1 ?_
      replace H := H.2
      refine w_ishl dX12_stopSet_31 ?_
      refine w_ior dX12_stopSet_32 ?_
      refine w_istore_n (ls' := [some (.ref 261), some (.int (l1 ||| ((1 : Int32) <<< ((I1 270 l2.toNatClampNeg) &&& 31)))), some (.int l2)]) dX12_stopSet_33 rfl (by decide) rfl rfl ?_
      skip
      exact H
set_option maxRecDepth 20000 in
theorem rX12_stopSet_34 {l1 l2 : Int32} {I : MI} {Q : Int32 → MI → Prop} (H : (LX12_stopSet_4 l1 (l2 + 1) I Q)) : LX12_stopSet_34 l1 l2 I Q := by
  show WP mX12_stopSet 286 Rf0 34 [some (.ref 261), some (.int l1), some (.int l2)] [] I (qi Q)
  refine w_iinc (v := l2 + 1) (ls' := [some (.ref 261), some (.int l1), some (.int (l2 + 1))]) dX12_stopSet_34 rfl rfl (by decide) rfl rfl ?_
  refine w_goto (t := 4) dX12_stopSet_37 (by decide) ?_
  skip
  exact H
set_option maxRecDepth 20000 in
theorem rX12_stopSet {I : MI} {Q : Int32 → MI → Prop} (H : (LX12_stopSet_4 0 0 I Q)) : Wi mX12_stopSet [.ref 261] I Q := by
  show WP mX12_stopSet 286 Rf0 0 [some (.ref 261), none, none] [] I (qi Q)
  refine w_iconst (v := 0) dX12_stopSet_0 (by decide) ?_
  refine w_istore_n (ls' := [some (.ref 261), some (.int 0), none]) dX12_stopSet_1 rfl (by decide) rfl rfl ?_
  refine w_iconst (v := 0) dX12_stopSet_2 (by decide) ?_
  refine w_istore_n (ls' := [some (.ref 261), some (.int 0), some (.int 0)]) dX12_stopSet_3 rfl (by decide) rfl rfl ?_
  skip
  exact H
theorem dX12_stops_0 : decode cX12_stops 0 = .ok (.aload_n 0, 1) := by decide +kernel
theorem dX12_stops_1 : decode cX12_stops 1 = .ok (.iconst 0, 1) := by decide +kernel
theorem dX12_stops_2 : decode cX12_stops 2 = .ok (.putfield 87, 3) := by decide +kernel
theorem dX12_stops_5 : decode cX12_stops 5 = .ok (.aload_n 0, 1) := by decide +kernel
theorem dX12_stops_6 : decode cX12_stops 6 = .ok (.invokevirtual 236, 3) := by decide +kernel
theorem dX12_stops_9 : decode cX12_stops 9 = .ok (.ireturn, 1) := by decide +kernel
set_option maxRecDepth 20000 in
theorem rX12_stops {I : MI} {Q : Int32 → MI → Prop} (H : (∀ I1 : MI, I1 = up2 I 261 0 0 → Wi mX12_stopSet [.ref 261] I1 (fun r3 I2 => (Q r3 I2)))) : Wi mX12_stops [.ref 261] I Q := by
  show WP mX12_stops 286 Rf0 0 [some (.ref 261)] [] I (qi Q)
  refine w_aload_n dX12_stops_0 rfl rfl ?_
  refine w_iconst (v := 0) dX12_stops_1 (by decide) ?_
  refine w_putI dX12_stops_2 fl_12_87 okC12 kd_261 (by decide) (by decide) rfl rfl rfl (w_up fun I1 hI => ?_)
  replace H := H I1 hI
  refine w_aload_n dX12_stops_5 rfl rfl ?_
  refine w_callV (st := []) (As := []) dX12_stops_6 ml_12_236 okX12_stopSet kd_261 (by decide) rfl rfl rfl (Nat.le_of_ble_eq_true rfl) (by decide) (Nat.le_of_ble_eq_true rfl) (wc_i H (fun r3 I2 H => ?_))
  exact w_iret dX12_stops_9 rfl ⟨_, rfl, H⟩
theorem dX12_habitOf_0 : decode cX12_habitOf 0 = .ok (.aload_n 0, 1) := by decide +kernel
theorem dX12_habitOf_1 : decode cX12_habitOf 1 = .ok (.getfield 47, 3) := by decide +kernel
theorem dX12_habitOf_4 : decode cX12_habitOf 4 = .ok (.sipush 193, 3) := by decide +kernel
theorem dX12_habitOf_7 : decode cX12_habitOf 7 = .ok (.bipush 10, 2) := by decide +kernel
theorem dX12_habitOf_9 : decode cX12_habitOf 9 = .ok (.iload_n 1, 1) := by decide +kernel
theorem dX12_habitOf_10 : decode cX12_habitOf 10 = .ok (.imul, 1) := by decide +kernel
theorem dX12_habitOf_11 : decode cX12_habitOf 11 = .ok (.iadd, 1) := by decide +kernel
theorem dX12_habitOf_12 : decode cX12_habitOf 12 = .ok (.iload_n 2, 1) := by decide +kernel
theorem dX12_habitOf_13 : decode cX12_habitOf 13 = .ok (.iadd, 1) := by decide +kernel
theorem dX12_habitOf_14 : decode cX12_habitOf 14 = .ok (.iaload, 1) := by decide +kernel
theorem dX12_habitOf_15 : decode cX12_habitOf 15 = .ok (.ireturn, 1) := by decide +kernel
set_option maxRecDepth 20000 in
theorem rX12_habitOf {a1 a2 : Int32} {I : MI} {Q : Int32 → MI → Prop} (H : (vp_in ((193 + (10 * a1)) + a2) 332 ∧ Q (I 274 ((193 + (10 * a1)) + a2).toNatClampNeg) I)) : Wi mX12_habitOf [.ref 261, .int a1, .int a2] I Q := by
  show WP mX12_habitOf 286 Rf0 0 [some (.ref 261), some (.int a1), some (.int a2)] [] I (qi Q)
  refine w_aload_n dX12_habitOf_0 rfl rfl ?_
  refine w_getR dX12_habitOf_1 fl_12_47 okC12 kd_261 (by decide) (by decide) rfl rf_261_22 ?_
  refine w_sipush (v := 193) dX12_habitOf_4 (by decide) ?_
  refine w_bipush (v := 10) dX12_habitOf_7 (by decide) ?_
  refine w_iload_n dX12_habitOf_9 rfl rfl ?_
  refine w_imul dX12_habitOf_10 ?_
  refine w_iadd dX12_habitOf_11 ?_
  refine w_iload_n dX12_habitOf_12 rfl rfl ?_
  refine w_iadd dX12_habitOf_13 ?_
  refine w_iald dX12_habitOf_14 kd_274 (by decide) H.1 ?_
  replace H := H.2
  exact w_iret dX12_habitOf_15 rfl ⟨_, rfl, H⟩
theorem dX12_habit_0 : decode cX12_habit 0 = .ok (.aload_n 0, 1) := by decide +kernel
theorem dX12_habit_1 : decode cX12_habit 1 = .ok (.iconst 0, 1) := by decide +kernel
theorem dX12_habit_2 : decode cX12_habit 2 = .ok (.putfield 87, 3) := by decide +kernel
theorem dX12_habit_5 : decode cX12_habit 5 = .ok (.aload_n 0, 1) := by decide +kernel
theorem dX12_habit_6 : decode cX12_habit 6 = .ok (.iload_n 1, 1) := by decide +kernel
theorem dX12_habit_7 : decode cX12_habit 7 = .ok (.invokevirtual 221, 3) := by decide +kernel
theorem dX12_habit_10 : decode cX12_habit 10 = .ok (.ifCond .eq 20, 3) := by decide +kernel
theorem dX12_habit_13 : decode cX12_habit 13 = .ok (.aload_n 0, 1) := by decide +kernel
theorem dX12_habit_14 : decode cX12_habit 14 = .ok (.iload_n 2, 1) := by decide +kernel
theorem dX12_habit_15 : decode cX12_habit 15 = .ok (.invokevirtual 221, 3) := by decide +kernel
theorem dX12_habit_18 : decode cX12_habit 18 = .ok (.ifCond .eq 12, 3) := by decide +kernel
theorem dX12_habit_21 : decode cX12_habit 21 = .ok (.aload_n 0, 1) := by decide +kernel
theorem dX12_habit_22 : decode cX12_habit 22 = .ok (.iload_n 1, 1) := by decide +kernel
theorem dX12_habit_23 : decode cX12_habit 23 = .ok (.iload_n 2, 1) := by decide +kernel
theorem dX12_habit_24 : decode cX12_habit 24 = .ok (.invokevirtual 239, 3) := by decide +kernel
theorem dX12_habit_27 : decode cX12_habit 27 = .ok (.goto 4, 3) := by decide +kernel
theorem dX12_habit_30 : decode cX12_habit 30 = .ok (.iconst (-1), 1) := by decide +kernel
theorem dX12_habit_31 : decode cX12_habit 31 = .ok (.ireturn, 1) := by decide +kernel
set_option maxRecDepth 20000 in
theorem rX12_habit {a1 a2 : Int32} {I : MI} {Q : Int32 → MI → Prop} (H : (∀ I1 : MI, I1 = up2 I 261 0 0 → Wi mX12_isNode [.ref 261, .int a1] I1 (fun r3 I2 => ((r3 = 0 → (Q (-1) I2)) ∧ (¬ r3 = 0 → (Wi mX12_isNode [.ref 261, .int a2] I2 (fun r5 I4 => ((r5 = 0 → (Q (-1) I4)) ∧ (¬ r5 = 0 → (Wi mX12_habitOf [.ref 261, .int a1, .int a2] I4 (fun r7 I6 => (Q r7 I6)))))))))))) : Wi mX12_habit [.ref 261, .int a1, .int a2] I Q := by
  show WP mX12_habit 286 Rf0 0 [some (.ref 261), some (.int a1), some (.int a2)] [] I (qi Q)
  refine w_aload_n dX12_habit_0 rfl rfl ?_
  refine w_iconst (v := 0) dX12_habit_1 (by decide) ?_
  refine w_putI dX12_habit_2 fl_12_87 okC12 kd_261 (by decide) (by decide) rfl rfl rfl (w_up fun I1 hI => ?_)
  replace H := H I1 hI
  refine w_aload_n dX12_habit_5 rfl rfl ?_
  refine w_iload_n dX12_habit_6 rfl rfl ?_
  refine w_callV (st := []) (As := [.int a1]) dX12_habit_7 ml_12_221 okX12_isNode kd_261 (by decide) rfl rfl rfl (Nat.le_of_ble_eq_true rfl) (by decide) (Nat.le_of_ble_eq_true rfl) (wc_i H (fun r3 I2 H => ?_))
  refine w_if_eq (t := 30) dX12_habit_10 (by decide) (fun h => ?_) (fun h => ?_)
  · replace H := H.1 h
    refine w_iconst (v := (-1)) dX12_habit_30 (by decide) ?_
    exact w_iret dX12_habit_31 rfl ⟨_, rfl, H⟩
  · replace H := H.2 h
    refine w_aload_n dX12_habit_13 rfl rfl ?_
    refine w_iload_n dX12_habit_14 rfl rfl ?_
    refine w_callV (st := []) (As := [.int a2]) dX12_habit_15 ml_12_221 okX12_isNode kd_261 (by decide) rfl rfl rfl (Nat.le_of_ble_eq_true rfl) (by decide) (Nat.le_of_ble_eq_true rfl) (wc_i H (fun r5 I4 H => ?_))
    refine w_if_eq (t := 30) dX12_habit_18 (by decide) (fun h => ?_) (fun h => ?_)
    · replace H := H.1 h
      refine w_iconst (v := (-1)) dX12_habit_30 (by decide) ?_
      exact w_iret dX12_habit_31 rfl ⟨_, rfl, H⟩
    · replace H := H.2 h
      refine w_aload_n dX12_habit_21 rfl rfl ?_
      refine w_iload_n dX12_habit_22 rfl rfl ?_
      refine w_iload_n dX12_habit_23 rfl rfl ?_
      refine w_callV (st := []) (As := [.int a1, .int a2]) dX12_habit_24 ml_12_239 okX12_habitOf kd_261 (by decide) rfl rfl rfl (Nat.le_of_ble_eq_true rfl) (by decide) (Nat.le_of_ble_eq_true rfl) (wc_i H (fun r7 I6 H => ?_))
      refine w_goto (t := 31) dX12_habit_27 (by decide) ?_
      exact w_iret dX12_habit_31 rfl ⟨_, rfl, H⟩
theorem dX12_layByNumber_0 : decode cX12_layByNumber 0 = .ok (.aload_n 0, 1) := by decide +kernel
theorem dX12_layByNumber_1 : decode cX12_layByNumber 1 = .ok (.invokevirtual 236, 3) := by decide +kernel
theorem dX12_layByNumber_4 : decode cX12_layByNumber 4 = .ok (.istore_n 1, 1) := by decide +kernel
theorem dX12_layByNumber_5 : decode cX12_layByNumber 5 = .ok (.aload_n 0, 1) := by decide +kernel
theorem dX12_layByNumber_6 : decode cX12_layByNumber 6 = .ok (.iconst 0, 1) := by decide +kernel
theorem dX12_layByNumber_7 : decode cX12_layByNumber 7 = .ok (.putfield 242, 3) := by decide +kernel
theorem dX12_layByNumber_10 : decode cX12_layByNumber 10 = .ok (.iconst 0, 1) := by decide +kernel
theorem dX12_layByNumber_11 : decode cX12_layByNumber 11 = .ok (.istore_n 2, 1) := by decide +kernel
theorem dX12_layByNumber_12 : decode cX12_layByNumber 12 = .ok (.iload_n 2, 1) := by decide +kernel
theorem dX12_layByNumber_13 : decode cX12_layByNumber 13 = .ok (.bipush 10, 2) := by decide +kernel
theorem dX12_layByNumber_15 : decode cX12_layByNumber 15 = .ok (.if_icmp .ge 40, 3) := by decide +kernel
theorem dX12_layByNumber_18 : decode cX12_layByNumber 18 = .ok (.iload_n 1, 1) := by decide +kernel
theorem dX12_layByNumber_19 : decode cX12_layByNumber 19 = .ok (.iload_n 2, 1) := by decide +kernel
theorem dX12_layByNumber_20 : decode cX12_layByNumber 20 = .ok (.ishr, 1) := by decide +kernel
theorem dX12_layByNumber_21 : decode cX12_layByNumber 21 = .ok (.iconst 1, 1) := by decide +kernel
theorem dX12_layByNumber_22 : decode cX12_layByNumber 22 = .ok (.iand, 1) := by decide +kernel
theorem dX12_layByNumber_23 : decode cX12_layByNumber 23 = .ok (.ifCond .ne 6, 3) := by decide +kernel
theorem dX12_layByNumber_26 : decode cX12_layByNumber 26 = .ok (.goto 23, 3) := by decide +kernel
theorem dX12_layByNumber_29 : decode cX12_layByNumber 29 = .ok (.aload_n 0, 1) := by decide +kernel
theorem dX12_layByNumber_30 : decode cX12_layByNumber 30 = .ok (.getfield 66, 3) := by decide +kernel
theorem dX12_layByNumber_33 : decode cX12_layByNumber 33 = .ok (.aload_n 0, 1) := by decide +kernel
theorem dX12_layByNumber_34 : decode cX12_layByNumber 34 = .ok (.getfield 242, 3) := by decide +kernel
theorem dX12_layByNumber_37 : decode cX12_layByNumber 37 = .ok (.iload_n 2, 1) := by decide +kernel
theorem dX12_layByNumber_38 : decode cX12_layByNumber 38 = .ok (.iastore, 1) := by decide +kernel
theorem dX12_layByNumber_39 : decode cX12_layByNumber 39 = .ok (.aload_n 0, 1) := by decide +kernel
theorem dX12_layByNumber_40 : decode cX12_layByNumber 40 = .ok (.dup, 1) := by decide +kernel
theorem dX12_layByNumber_41 : decode cX12_layByNumber 41 = .ok (.getfield 242, 3) := by decide +kernel
theorem dX12_layByNumber_44 : decode cX12_layByNumber 44 = .ok (.iconst 1, 1) := by decide +kernel
theorem dX12_layByNumber_45 : decode cX12_layByNumber 45 = .ok (.iadd, 1) := by decide +kernel
theorem dX12_layByNumber_46 : decode cX12_layByNumber 46 = .ok (.putfield 242, 3) := by decide +kernel
theorem dX12_layByNumber_49 : decode cX12_layByNumber 49 = .ok (.iinc 2 1, 3) := by decide +kernel
theorem dX12_layByNumber_52 : decode cX12_layByNumber 52 = .ok (.goto (-40), 3) := by decide +kernel
theorem dX12_layByNumber_55 : decode cX12_layByNumber 55 = .ok (.return_, 1) := by decide +kernel
abbrev LX12_layByNumber_12 (l1 l2 : Int32) (I : MI) (Q : MI → Prop) : Prop := WP mX12_layByNumber 286 Rf0 12 [some (.ref 261), some (.int l1), some (.int l2)] [] I (qv Q)
abbrev LX12_layByNumber_49 (l1 l2 : Int32) (I : MI) (Q : MI → Prop) : Prop := WP mX12_layByNumber 286 Rf0 49 [some (.ref 261), some (.int l1), some (.int l2)] [] I (qv Q)
set_option maxRecDepth 20000 in
theorem rX12_layByNumber_12 {l1 l2 : Int32} {I : MI} {Q : MI → Prop} (H : ((10 ≤ l2 → (Q I)) ∧ (¬ 10 ≤ l2 → ((¬ ((l1 >>> (l2 &&& 31)) &&& (1 : Int32)) = 0 → (vp_in (I 261 30) 10 ∧ ∀ I1 : MI, I1 = up2 I 280 (I 261 30).toNatClampNeg l2 → ∀ I2 : MI, I2 = up2 I1 261 30 ((I1 261 30) + 1) → LX12_layByNumber_49 l1 l2 I2 Q)) ∧ (((l1 >>> (l2 &&& 31)) &&& (1 : Int32)) = 0 → (LX12_layByNumber_49 l1 l2 I Q)))))) : LX12_layByNumber_12 l1 l2 I Q := by
  show WP mX12_layByNumber 286 Rf0 12 [some (.ref 261), some (.int l1), some (.int l2)] [] I (qv Q)
  refine w_iload_n dX12_layByNumber_12 rfl rfl ?_
  refine w_bipush (v := 10) dX12_layByNumber_13 (by decide) ?_
  refine w_icmp_ge (t := 55) dX12_layByNumber_15 (by decide) (fun h => ?_) (fun h => ?_)
  · replace H := H.1 h
    exact w_vret dX12_layByNumber_55 rfl ⟨rfl, H⟩
  · replace H := H.2 h
    refine w_iload_n dX12_layByNumber_18 rfl rfl ?_
    refine w_iload_n dX12_layByNumber_19 rfl rfl ?_
    refine w_ishr dX12_layByNumber_20 ?_
    refine w_iconst (v := 1) dX12_layByNumber_21 (by decide) ?_
    refine w_iand dX12_layByNumber_22 ?_
    refine w_if_ne (t := 29) dX12_layByNumber_23 (by decide) (fun h => ?_) (fun h => ?_)
    · replace H := H.1 h
      refine w_aload_n dX12_layByNumber_29 rfl rfl ?_
      refine w_getR dX12_layByNumber_30 fl_12_66 okC12 kd_261 (by decide) (by decide) rfl rf_261_29 ?_
      refine w_aload_n dX12_layByNumber_33 rfl rfl ?_
      refine w_getI dX12_layByNumber_34 fl_12_242 okC12 kd_261 (by decide) (by decide) rfl ?_
      refine w_iload_n dX12_layByNumber_37 rfl rfl ?_
      refine w_iast dX12_layByNumber_38 kd_280 (by decide) H.1 (w_up fun I1 hI => ?_)
      replace H := H.2 I1 hI
      refine w_aload_n dX12_layByNumber_39 rfl rfl ?_
      refine w_dup dX12_layByNumber_40 rfl ?_
      refine w_getI dX12_layByNumber_41 fl_12_242 okC12 kd_261 (by decide) (by decide) rfl ?_
      refine w_iconst (v := 1) dX12_layByNumber_44 (by decide) ?_
      refine w_iadd dX12_layByNumber_45 ?_
      refine w_putI dX12_layByNumber_46 fl_12_242 okC12 kd_261 (by decide) (by decide) rfl rfl rfl (w_up fun I2 hI => ?_)
      replace H := H I2 hI
      skip
      exact H
    · replace H := H.2 h
      refine w_goto (t := 49) dX12_layByNumber_26 (by decide) ?_
      skip
      exact H
set_option maxRecDepth 20000 in
theorem rX12_layByNumber_49 {l1 l2 : Int32} {I : MI} {Q : MI → Prop} (H : (LX12_layByNumber_12 l1 (l2 + 1) I Q)) : LX12_layByNumber_49 l1 l2 I Q := by
  show WP mX12_layByNumber 286 Rf0 49 [some (.ref 261), some (.int l1), some (.int l2)] [] I (qv Q)
  refine w_iinc (v := l2 + 1) (ls' := [some (.ref 261), some (.int l1), some (.int (l2 + 1))]) dX12_layByNumber_49 rfl rfl (by decide) rfl rfl ?_
  refine w_goto (t := 12) dX12_layByNumber_52 (by decide) ?_
  skip
  exact H
set_option maxRecDepth 20000 in
theorem rX12_layByNumber {I : MI} {Q : MI → Prop} (H : (Wi mX12_stopSet [.ref 261] I (fun r2 I1 => (∀ I3 : MI, I3 = up2 I1 261 30 0 → LX12_layByNumber_12 r2 0 I3 Q)))) : Wv mX12_layByNumber [.ref 261] I Q := by
  show WP mX12_layByNumber 286 Rf0 0 [some (.ref 261), none, none] [] I (qv Q)
  refine w_aload_n dX12_layByNumber_0 rfl rfl ?_
  refine w_callV (st := []) (As := []) dX12_layByNumber_1 ml_12_236 okX12_stopSet kd_261 (by decide) rfl rfl rfl (Nat.le_of_ble_eq_true rfl) (by decide) (Nat.le_of_ble_eq_true rfl) (wc_i H (fun r2 I1 H => ?_))
  refine w_istore_n (ls' := [some (.ref 261), some (.int r2), none]) dX12_layByNumber_4 rfl (by decide) rfl rfl ?_
  refine w_aload_n dX12_layByNumber_5 rfl rfl ?_
  refine w_iconst (v := 0) dX12_layByNumber_6 (by decide) ?_
  refine w_putI dX12_layByNumber_7 fl_12_242 okC12 kd_261 (by decide) (by decide) rfl rfl rfl (w_up fun I3 hI => ?_)
  replace H := H I3 hI
  refine w_iconst (v := 0) dX12_layByNumber_10 (by decide) ?_
  refine w_istore_n (ls' := [some (.ref 261), some (.int r2), some (.int 0)]) dX12_layByNumber_11 rfl (by decide) rfl rfl ?_
  skip
  exact H
theorem dX12_layHorse_0 : decode cX12_layHorse 0 = .ok (.aload_n 0, 1) := by decide +kernel
theorem dX12_layHorse_1 : decode cX12_layHorse 1 = .ok (.invokevirtual 236, 3) := by decide +kernel
theorem dX12_layHorse_4 : decode cX12_layHorse 4 = .ok (.istore_n 1, 1) := by decide +kernel
theorem dX12_layHorse_5 : decode cX12_layHorse 5 = .ok (.iconst 0, 1) := by decide +kernel
theorem dX12_layHorse_6 : decode cX12_layHorse 6 = .ok (.istore_n 2, 1) := by decide +kernel
theorem dX12_layHorse_7 : decode cX12_layHorse 7 = .ok (.aload_n 0, 1) := by decide +kernel
theorem dX12_layHorse_8 : decode cX12_layHorse 8 = .ok (.iconst 0, 1) := by decide +kernel
theorem dX12_layHorse_9 : decode cX12_layHorse 9 = .ok (.putfield 242, 3) := by decide +kernel
theorem dX12_layHorse_12 : decode cX12_layHorse 12 = .ok (.iload_n 1, 1) := by decide +kernel
theorem dX12_layHorse_13 : decode cX12_layHorse 13 = .ok (.ifCond .eq 132, 3) := by decide +kernel
theorem dX12_layHorse_16 : decode cX12_layHorse 16 = .ok (.aload_n 0, 1) := by decide +kernel
theorem dX12_layHorse_17 : decode cX12_layHorse 17 = .ok (.iload_n 2, 1) := by decide +kernel
theorem dX12_layHorse_18 : decode cX12_layHorse 18 = .ok (.aload_n 0, 1) := by decide +kernel
theorem dX12_layHorse_19 : decode cX12_layHorse 19 = .ok (.getfield 13, 3) := by decide +kernel
theorem dX12_layHorse_22 : decode cX12_layHorse 22 = .ok (.iconst 2, 1) := by decide +kernel
theorem dX12_layHorse_23 : decode cX12_layHorse 23 = .ok (.iaload, 1) := by decide +kernel
theorem dX12_layHorse_24 : decode cX12_layHorse 24 = .ok (.invokevirtual 214, 3) := by decide +kernel
theorem dX12_layHorse_27 : decode cX12_layHorse 27 = .ok (.iconst (-1), 1) := by decide +kernel
theorem dX12_layHorse_28 : decode cX12_layHorse 28 = .ok (.istore_n 3, 1) := by decide +kernel
theorem dX12_layHorse_29 : decode cX12_layHorse 29 = .ok (.iconst 0, 1) := by decide +kernel
theorem dX12_layHorse_30 : decode cX12_layHorse 30 = .ok (.istore 4, 2) := by decide +kernel
theorem dX12_layHorse_32 : decode cX12_layHorse 32 = .ok (.iload 4, 2) := by decide +kernel
theorem dX12_layHorse_34 : decode cX12_layHorse 34 = .ok (.bipush 10, 2) := by decide +kernel
theorem dX12_layHorse_36 : decode cX12_layHorse 36 = .ok (.if_icmp .ge 76, 3) := by decide +kernel
theorem dX12_layHorse_39 : decode cX12_layHorse 39 = .ok (.iload_n 1, 1) := by decide +kernel
theorem dX12_layHorse_40 : decode cX12_layHorse 40 = .ok (.iload 4, 2) := by decide +kernel
theorem dX12_layHorse_42 : decode cX12_layHorse 42 = .ok (.ishr, 1) := by decide +kernel
theorem dX12_layHorse_43 : decode cX12_layHorse 43 = .ok (.iconst 1, 1) := by decide +kernel
theorem dX12_layHorse_44 : decode cX12_layHorse 44 = .ok (.iand, 1) := by decide +kernel
theorem dX12_layHorse_45 : decode cX12_layHorse 45 = .ok (.ifCond .ne 6, 3) := by decide +kernel
theorem dX12_layHorse_48 : decode cX12_layHorse 48 = .ok (.goto 58, 3) := by decide +kernel
theorem dX12_layHorse_51 : decode cX12_layHorse 51 = .ok (.iload_n 3, 1) := by decide +kernel
theorem dX12_layHorse_52 : decode cX12_layHorse 52 = .ok (.ifCond .lt 51, 3) := by decide +kernel
theorem dX12_layHorse_55 : decode cX12_layHorse 55 = .ok (.aload_n 0, 1) := by decide +kernel
theorem dX12_layHorse_56 : decode cX12_layHorse 56 = .ok (.iload_n 2, 1) := by decide +kernel
theorem dX12_layHorse_57 : decode cX12_layHorse 57 = .ok (.iload 4, 2) := by decide +kernel
theorem dX12_layHorse_59 : decode cX12_layHorse 59 = .ok (.invokevirtual 239, 3) := by decide +kernel
theorem dX12_layHorse_62 : decode cX12_layHorse 62 = .ok (.aload_n 0, 1) := by decide +kernel
theorem dX12_layHorse_63 : decode cX12_layHorse 63 = .ok (.iload_n 2, 1) := by decide +kernel
theorem dX12_layHorse_64 : decode cX12_layHorse 64 = .ok (.iload_n 3, 1) := by decide +kernel
theorem dX12_layHorse_65 : decode cX12_layHorse 65 = .ok (.invokevirtual 239, 3) := by decide +kernel
theorem dX12_layHorse_68 : decode cX12_layHorse 68 = .ok (.if_icmp .gt 35, 3) := by decide +kernel
theorem dX12_layHorse_71 : decode cX12_layHorse 71 = .ok (.aload_n 0, 1) := by decide +kernel
theorem dX12_layHorse_72 : decode cX12_layHorse 72 = .ok (.iload_n 2, 1) := by decide +kernel
theorem dX12_layHorse_73 : decode cX12_layHorse 73 = .ok (.iload 4, 2) := by decide +kernel
theorem dX12_layHorse_75 : decode cX12_layHorse 75 = .ok (.invokevirtual 239, 3) := by decide +kernel
theorem dX12_layHorse_78 : decode cX12_layHorse 78 = .ok (.aload_n 0, 1) := by decide +kernel
theorem dX12_layHorse_79 : decode cX12_layHorse 79 = .ok (.iload_n 2, 1) := by decide +kernel
theorem dX12_layHorse_80 : decode cX12_layHorse 80 = .ok (.iload_n 3, 1) := by decide +kernel
theorem dX12_layHorse_81 : decode cX12_layHorse 81 = .ok (.invokevirtual 239, 3) := by decide +kernel
theorem dX12_layHorse_84 : decode cX12_layHorse 84 = .ok (.if_icmp .ne 22, 3) := by decide +kernel
theorem dX12_layHorse_87 : decode cX12_layHorse 87 = .ok (.aload_n 0, 1) := by decide +kernel
theorem dX12_layHorse_88 : decode cX12_layHorse 88 = .ok (.getfield 60, 3) := by decide +kernel
theorem dX12_layHorse_91 : decode cX12_layHorse 91 = .ok (.iload 4, 2) := by decide +kernel
theorem dX12_layHorse_93 : decode cX12_layHorse 93 = .ok (.iaload, 1) := by decide +kernel
theorem dX12_layHorse_94 : decode cX12_layHorse 94 = .ok (.aload_n 0, 1) := by decide +kernel
theorem dX12_layHorse_95 : decode cX12_layHorse 95 = .ok (.getfield 60, 3) := by decide +kernel
theorem dX12_layHorse_98 : decode cX12_layHorse 98 = .ok (.iload_n 3, 1) := by decide +kernel
theorem dX12_layHorse_99 : decode cX12_layHorse 99 = .ok (.iaload, 1) := by decide +kernel
theorem dX12_layHorse_100 : decode cX12_layHorse 100 = .ok (.if_icmp .ge 6, 3) := by decide +kernel
theorem dX12_layHorse_103 : decode cX12_layHorse 103 = .ok (.iload 4, 2) := by decide +kernel
theorem dX12_layHorse_105 : decode cX12_layHorse 105 = .ok (.istore_n 3, 1) := by decide +kernel
theorem dX12_layHorse_106 : decode cX12_layHorse 106 = .ok (.iinc 4 1, 3) := by decide +kernel
theorem dX12_layHorse_109 : decode cX12_layHorse 109 = .ok (.goto (-77), 3) := by decide +kernel
theorem dX12_layHorse_112 : decode cX12_layHorse 112 = .ok (.aload_n 0, 1) := by decide +kernel
theorem dX12_layHorse_113 : decode cX12_layHorse 113 = .ok (.getfield 66, 3) := by decide +kernel
theorem dX12_layHorse_116 : decode cX12_layHorse 116 = .ok (.aload_n 0, 1) := by decide +kernel
theorem dX12_layHorse_117 : decode cX12_layHorse 117 = .ok (.getfield 242, 3) := by decide +kernel
theorem dX12_layHorse_120 : decode cX12_layHorse 120 = .ok (.iload_n 3, 1) := by decide +kernel
theorem dX12_layHorse_121 : decode cX12_layHorse 121 = .ok (.iastore, 1) := by decide +kernel
theorem dX12_layHorse_122 : decode cX12_layHorse 122 = .ok (.aload_n 0, 1) := by decide +kernel
theorem dX12_layHorse_123 : decode cX12_layHorse 123 = .ok (.dup, 1) := by decide +kernel
theorem dX12_layHorse_124 : decode cX12_layHorse 124 = .ok (.getfield 242, 3) := by decide +kernel
theorem dX12_layHorse_127 : decode cX12_layHorse 127 = .ok (.iconst 1, 1) := by decide +kernel
theorem dX12_layHorse_128 : decode cX12_layHorse 128 = .ok (.iadd, 1) := by decide +kernel
theorem dX12_layHorse_129 : decode cX12_layHorse 129 = .ok (.putfield 242, 3) := by decide +kernel
theorem dX12_layHorse_132 : decode cX12_layHorse 132 = .ok (.iload_n 1, 1) := by decide +kernel
theorem dX12_layHorse_133 : decode cX12_layHorse 133 = .ok (.iconst 1, 1) := by decide +kernel
theorem dX12_layHorse_134 : decode cX12_layHorse 134 = .ok (.iload_n 3, 1) := by decide +kernel
theorem dX12_layHorse_135 : decode cX12_layHorse 135 = .ok (.ishl, 1) := by decide +kernel
theorem dX12_layHorse_136 : decode cX12_layHorse 136 = .ok (.iconst (-1), 1) := by decide +kernel
theorem dX12_layHorse_137 : decode cX12_layHorse 137 = .ok (.ixor, 1) := by decide +kernel
theorem dX12_layHorse_138 : decode cX12_layHorse 138 = .ok (.iand, 1) := by decide +kernel
theorem dX12_layHorse_139 : decode cX12_layHorse 139 = .ok (.istore_n 1, 1) := by decide +kernel
theorem dX12_layHorse_140 : decode cX12_layHorse 140 = .ok (.iload_n 3, 1) := by decide +kernel
theorem dX12_layHorse_141 : decode cX12_layHorse 141 = .ok (.istore_n 2, 1) := by decide +kernel
theorem dX12_layHorse_142 : decode cX12_layHorse 142 = .ok (.goto (-130), 3) := by decide +kernel
theorem dX12_layHorse_145 : decode cX12_layHorse 145 = .ok (.return_, 1) := by decide +kernel
abbrev LX12_layHorse_12 (l1 l2 : Int32) (I : MI) (Q : MI → Prop) : Prop := WP mX12_layHorse 286 Rf0 12 [some (.ref 261), some (.int l1), some (.int l2), none, none] [] I (qv Q)
abbrev LX12_layHorse_32 (l1 l2 l3 l4 : Int32) (I : MI) (Q : MI → Prop) : Prop := WP mX12_layHorse 286 Rf0 32 [some (.ref 261), some (.int l1), some (.int l2), some (.int l3), some (.int l4)] [] I (qv Q)
abbrev LX12_layHorse_103 (l1 l2 l3 l4 : Int32) (I : MI) (Q : MI → Prop) : Prop := WP mX12_layHorse 286 Rf0 103 [some (.ref 261), some (.int l1), some (.int l2), some (.int l3), some (.int l4)] [] I (qv Q)
abbrev LX12_layHorse_106 (l1 l2 l3 l4 : Int32) (I : MI) (Q : MI → Prop) : Prop := WP mX12_layHorse 286 Rf0 106 [some (.ref 261), some (.int l1), some (.int l2), some (.int l3), some (.int l4)] [] I (qv Q)
set_option maxRecDepth 20000 in
theorem rX12_layHorse_12 {l1 l2 : Int32} {I : MI} {Q : MI → Prop} (H : ((l1 = 0 → (Q I)) ∧ (¬ l1 = 0 → (vp_in 2 7 ∧ Wv mX12_layArrivals [.ref 261, .int l2, .int (I 263 (2 : Int32).toNatClampNeg)] I (fun I1 => (LX12_layHorse_32 l1 l2 (-1) 0 I1 Q)))))) : LX12_layHorse_12 l1 l2 I Q := by
  show WP mX12_layHorse 286 Rf0 12 [some (.ref 261), some (.int l1), some (.int l2), none, none] [] I (qv Q)
  refine w_iload_n dX12_layHorse_12 rfl rfl ?_
  refine w_if_eq (t := 145) dX12_layHorse_13 (by decide) (fun h => ?_) (fun h => ?_)
  · replace H := H.1 h
    exact w_vret dX12_layHorse_145 rfl ⟨rfl, H⟩
  · replace H := H.2 h
    refine w_aload_n dX12_layHorse_16 rfl rfl ?_
    refine w_iload_n dX12_layHorse_17 rfl rfl ?_
    refine w_aload_n dX12_layHorse_18 rfl rfl ?_
    refine w_getR dX12_layHorse_19 fl_12_13 okC12 kd_261 (by decide) (by decide) rfl rf_261_10 ?_
    refine w_iconst (v := 2) dX12_layHorse_22 (by decide) ?_
    refine w_iald dX12_layHorse_23 kd_263 (by decide) H.1 ?_
    replace H := H.2
    refine w_callV (st := []) (As := [.int l2, .int (I 263 (2 : Int32).toNatClampNeg)]) dX12_layHorse_24 ml_12_214 okX12_layArrivals kd_261 (by decide) rfl rfl rfl (Nat.le_of_ble_eq_true rfl) (by decide) (Nat.le_of_ble_eq_true rfl) (wc_v H (fun I1 H => ?_))
    refine w_iconst (v := (-1)) dX12_layHorse_27 (by decide) ?_
    refine w_istore_n (ls' := [some (.ref 261), some (.int l1), some (.int l2), some (.int (-1)), none]) dX12_layHorse_28 rfl (by decide) rfl rfl ?_
    refine w_iconst (v := 0) dX12_layHorse_29 (by decide) ?_
    refine w_istore (ls' := [some (.ref 261), some (.int l1), some (.int l2), some (.int (-1)), some (.int 0)]) dX12_layHorse_30 (by decide) rfl rfl ?_
    skip
    exact H
set_option maxRecDepth 20000 in
theorem rX12_layHorse_32 {l1 l2 l3 l4 : Int32} {I : MI} {Q : MI → Prop} (H : ((10 ≤ l4 → (vp_in (I 261 30) 10 ∧ ∀ I1 : MI, I1 = up2 I 280 (I 261 30).toNatClampNeg l3 → ∀ I2 : MI, I2 = up2 I1 261 30 ((I1 261 30) + 1) → LX12_layHorse_12 (l1 &&& (((1 : Int32) <<< (l3 &&& 31)) ^^^ ((-1) : Int32))) l3 I2 Q)) ∧ (¬ 10 ≤ l4 → ((¬ ((l1 >>> (l4 &&& 31)) &&& (1 : Int32)) = 0 → ((l3 < 0 → (LX12_layHorse_103 l1 l2 l3 l4 I Q)) ∧ (¬ l3 < 0 → (Wi mX12_habitOf [.ref 261, .int l2, .int l4] I (fun r2 I1 => (Wi mX12_habitOf [.ref 261, .int l2, .int l3] I1 (fun r4 I3 => ((r4 < r2 → (LX12_layHorse_103 l1 l2 l3 l4 I3 Q)) ∧ (¬ r4 < r2 → (Wi mX12_habitOf [.ref 261, .int l2, .int l4] I3 (fun r6 I5 => (Wi mX12_habitOf [.ref 261, .int l2, .int l3] I5 (fun r8 I7 => ((¬ r6 = r8 → (LX12_layHorse_106 l1 l2 l3 l4 I7 Q)) ∧ (r6 = r8 → (vp_in l4 10 ∧ vp_in l3 10 ∧ ((I7 278 l3.toNatClampNeg) ≤ (I7 278 l4.toNatClampNeg) → (LX12_layHorse_106 l1 l2 l3 l4 I7 Q)) ∧ (¬ (I7 278 l3.toNatClampNeg) ≤ (I7 278 l4.toNatClampNeg) → (LX12_layHorse_103 l1 l2 l3 l4 I7 Q)))))))))))))))))) ∧ (((l1 >>> (l4 &&& 31)) &&& (1 : Int32)) = 0 → (LX12_layHorse_106 l1 l2 l3 l4 I Q)))))) : LX12_layHorse_32 l1 l2 l3 l4 I Q := by
  show WP mX12_layHorse 286 Rf0 32 [some (.ref 261), some (.int l1), some (.int l2), some (.int l3), some (.int l4)] [] I (qv Q)
  refine w_iload dX12_layHorse_32 rfl ?_
  refine w_bipush (v := 10) dX12_layHorse_34 (by decide) ?_
  refine w_icmp_ge (t := 112) dX12_layHorse_36 (by decide) (fun h => ?_) (fun h => ?_)
  · replace H := H.1 h
    refine w_aload_n dX12_layHorse_112 rfl rfl ?_
    refine w_getR dX12_layHorse_113 fl_12_66 okC12 kd_261 (by decide) (by decide) rfl rf_261_29 ?_
    refine w_aload_n dX12_layHorse_116 rfl rfl ?_
    refine w_getI dX12_layHorse_117 fl_12_242 okC12 kd_261 (by decide) (by decide) rfl ?_
    refine w_iload_n dX12_layHorse_120 rfl rfl ?_
    refine w_iast dX12_layHorse_121 kd_280 (by decide) H.1 (w_up fun I1 hI => ?_)
    replace H := H.2 I1 hI
    refine w_aload_n dX12_layHorse_122 rfl rfl ?_
    refine w_dup dX12_layHorse_123 rfl ?_
    refine w_getI dX12_layHorse_124 fl_12_242 okC12 kd_261 (by decide) (by decide) rfl ?_
    refine w_iconst (v := 1) dX12_layHorse_127 (by decide) ?_
    refine w_iadd dX12_layHorse_128 ?_
    refine w_putI dX12_layHorse_129 fl_12_242 okC12 kd_261 (by decide) (by decide) rfl rfl rfl (w_up fun I2 hI => ?_)
    replace H := H I2 hI
    refine w_iload_n dX12_layHorse_132 rfl rfl ?_
    refine w_iconst (v := 1) dX12_layHorse_133 (by decide) ?_
    refine w_iload_n dX12_layHorse_134 rfl rfl ?_
    refine w_ishl dX12_layHorse_135 ?_
    refine w_iconst (v := (-1)) dX12_layHorse_136 (by decide) ?_
    refine w_ixor dX12_layHorse_137 ?_
    refine w_iand dX12_layHorse_138 ?_
    refine w_istore_n (ls' := [some (.ref 261), some (.int (l1 &&& (((1 : Int32) <<< (l3 &&& 31)) ^^^ ((-1) : Int32)))), some (.int l2), some (.int l3), some (.int l4)]) dX12_layHorse_139 rfl (by decide) rfl rfl ?_
    refine w_iload_n dX12_layHorse_140 rfl rfl ?_
    refine w_istore_n (ls' := [some (.ref 261), some (.int (l1 &&& (((1 : Int32) <<< (l3 &&& 31)) ^^^ ((-1) : Int32)))), some (.int l3), some (.int l3), some (.int l4)]) dX12_layHorse_141 rfl (by decide) rfl rfl ?_
    refine w_goto (t := 12) dX12_layHorse_142 (by decide) ?_
    refine w_less (ls' := [some (.ref 261), some (.int (l1 &&& (((1 : Int32) <<< (l3 &&& 31)) ^^^ ((-1) : Int32)))), some (.int l3), none, none]) (by simp [lsub]) ?_
    exact H
  · replace H := H.2 h
    refine w_iload_n dX12_layHorse_39 rfl rfl ?_
    refine w_iload dX12_layHorse_40 rfl ?_
    refine w_ishr dX12_layHorse_42 ?_
    refine w_iconst (v := 1) dX12_layHorse_43 (by decide) ?_
    refine w_iand dX12_layHorse_44 ?_
    refine w_if_ne (t := 51) dX12_layHorse_45 (by decide) (fun h => ?_) (fun h => ?_)
    · replace H := H.1 h
      refine w_iload_n dX12_layHorse_51 rfl rfl ?_
      refine w_if_lt (t := 103) dX12_layHorse_52 (by decide) (fun h => ?_) (fun h => ?_)
      · replace H := H.1 h
        skip
        exact H
      · replace H := H.2 h
        refine w_aload_n dX12_layHorse_55 rfl rfl ?_
        refine w_iload_n dX12_layHorse_56 rfl rfl ?_
        refine w_iload dX12_layHorse_57 rfl ?_
        refine w_callV (st := []) (As := [.int l2, .int l4]) dX12_layHorse_59 ml_12_239 okX12_habitOf kd_261 (by decide) rfl rfl rfl (Nat.le_of_ble_eq_true rfl) (by decide) (Nat.le_of_ble_eq_true rfl) (wc_i H (fun r2 I1 H => ?_))
        refine w_aload_n dX12_layHorse_62 rfl rfl ?_
        refine w_iload_n dX12_layHorse_63 rfl rfl ?_
        refine w_iload_n dX12_layHorse_64 rfl rfl ?_
        refine w_callV (st := [.int r2]) (As := [.int l2, .int l3]) dX12_layHorse_65 ml_12_239 okX12_habitOf kd_261 (by decide) rfl rfl rfl (Nat.le_of_ble_eq_true rfl) (by decide) (Nat.le_of_ble_eq_true rfl) (wc_i H (fun r4 I3 H => ?_))
        refine w_icmp_gt (t := 103) dX12_layHorse_68 (by decide) (fun h => ?_) (fun h => ?_)
        · replace H := H.1 h
          skip
          exact H
        · replace H := H.2 h
          refine w_aload_n dX12_layHorse_71 rfl rfl ?_
          refine w_iload_n dX12_layHorse_72 rfl rfl ?_
          refine w_iload dX12_layHorse_73 rfl ?_
          refine w_callV (st := []) (As := [.int l2, .int l4]) dX12_layHorse_75 ml_12_239 okX12_habitOf kd_261 (by decide) rfl rfl rfl (Nat.le_of_ble_eq_true rfl) (by decide) (Nat.le_of_ble_eq_true rfl) (wc_i H (fun r6 I5 H => ?_))
          refine w_aload_n dX12_layHorse_78 rfl rfl ?_
          refine w_iload_n dX12_layHorse_79 rfl rfl ?_
          refine w_iload_n dX12_layHorse_80 rfl rfl ?_
          refine w_callV (st := [.int r6]) (As := [.int l2, .int l3]) dX12_layHorse_81 ml_12_239 okX12_habitOf kd_261 (by decide) rfl rfl rfl (Nat.le_of_ble_eq_true rfl) (by decide) (Nat.le_of_ble_eq_true rfl) (wc_i H (fun r8 I7 H => ?_))
          refine w_icmp_ne (t := 106) dX12_layHorse_84 (by decide) (fun h => ?_) (fun h => ?_)
          · replace H := H.1 h
            skip
            exact H
          · replace H := H.2 h
            refine w_aload_n dX12_layHorse_87 rfl rfl ?_
            refine w_getR dX12_layHorse_88 fl_12_60 okC12 kd_261 (by decide) (by decide) rfl rf_261_27 ?_
            refine w_iload dX12_layHorse_91 rfl ?_
            refine w_iald dX12_layHorse_93 kd_278 (by decide) H.1 ?_
            replace H := H.2
            refine w_aload_n dX12_layHorse_94 rfl rfl ?_
            refine w_getR dX12_layHorse_95 fl_12_60 okC12 kd_261 (by decide) (by decide) rfl rf_261_27 ?_
            refine w_iload_n dX12_layHorse_98 rfl rfl ?_
            refine w_iald dX12_layHorse_99 kd_278 (by decide) H.1 ?_
            replace H := H.2
            refine w_icmp_ge (t := 106) dX12_layHorse_100 (by decide) (fun h => ?_) (fun h => ?_)
            · replace H := H.1 h
              skip
              exact H
            · replace H := H.2 h
              skip
              exact H
    · replace H := H.2 h
      refine w_goto (t := 106) dX12_layHorse_48 (by decide) ?_
      skip
      exact H
set_option maxRecDepth 20000 in
theorem rX12_layHorse_103 {l1 l2 l3 l4 : Int32} {I : MI} {Q : MI → Prop} (H : (LX12_layHorse_106 l1 l2 l4 l4 I Q)) : LX12_layHorse_103 l1 l2 l3 l4 I Q := by
  show WP mX12_layHorse 286 Rf0 103 [some (.ref 261), some (.int l1), some (.int l2), some (.int l3), some (.int l4)] [] I (qv Q)
  refine w_iload dX12_layHorse_103 rfl ?_
  refine w_istore_n (ls' := [some (.ref 261), some (.int l1), some (.int l2), some (.int l4), some (.int l4)]) dX12_layHorse_105 rfl (by decide) rfl rfl ?_
  skip
  exact H
set_option maxRecDepth 20000 in
theorem rX12_layHorse_106 {l1 l2 l3 l4 : Int32} {I : MI} {Q : MI → Prop} (H : (LX12_layHorse_32 l1 l2 l3 (l4 + 1) I Q)) : LX12_layHorse_106 l1 l2 l3 l4 I Q := by
  show WP mX12_layHorse 286 Rf0 106 [some (.ref 261), some (.int l1), some (.int l2), some (.int l3), some (.int l4)] [] I (qv Q)
  refine w_iinc (v := l4 + 1) (ls' := [some (.ref 261), some (.int l1), some (.int l2), some (.int l3), some (.int (l4 + 1))]) dX12_layHorse_106 rfl rfl (by decide) rfl rfl ?_
  refine w_goto (t := 32) dX12_layHorse_109 (by decide) ?_
  skip
  exact H
set_option maxRecDepth 20000 in
theorem rX12_layHorse {I : MI} {Q : MI → Prop} (H : (Wi mX12_stopSet [.ref 261] I (fun r2 I1 => (∀ I3 : MI, I3 = up2 I1 261 30 0 → LX12_layHorse_12 r2 0 I3 Q)))) : Wv mX12_layHorse [.ref 261] I Q := by
  show WP mX12_layHorse 286 Rf0 0 [some (.ref 261), none, none, none, none] [] I (qv Q)
  refine w_aload_n dX12_layHorse_0 rfl rfl ?_
  refine w_callV (st := []) (As := []) dX12_layHorse_1 ml_12_236 okX12_stopSet kd_261 (by decide) rfl rfl rfl (Nat.le_of_ble_eq_true rfl) (by decide) (Nat.le_of_ble_eq_true rfl) (wc_i H (fun r2 I1 H => ?_))
  refine w_istore_n (ls' := [some (.ref 261), some (.int r2), none, none, none]) dX12_layHorse_4 rfl (by decide) rfl rfl ?_
  refine w_iconst (v := 0) dX12_layHorse_5 (by decide) ?_
  refine w_istore_n (ls' := [some (.ref 261), some (.int r2), some (.int 0), none, none]) dX12_layHorse_6 rfl (by decide) rfl rfl ?_
  refine w_aload_n dX12_layHorse_7 rfl rfl ?_
  refine w_iconst (v := 0) dX12_layHorse_8 (by decide) ?_
  refine w_putI dX12_layHorse_9 fl_12_242 okC12 kd_261 (by decide) (by decide) rfl rfl rfl (w_up fun I3 hI => ?_)
  replace H := H I3 hI
  skip
  exact H
theorem dX12_stayAt_0 : decode cX12_stayAt 0 = .ok (.iconst 0, 1) := by decide +kernel
theorem dX12_stayAt_1 : decode cX12_stayAt 1 = .ok (.istore_n 2, 1) := by decide +kernel
theorem dX12_stayAt_2 : decode cX12_stayAt 2 = .ok (.iconst 0, 1) := by decide +kernel
theorem dX12_stayAt_3 : decode cX12_stayAt 3 = .ok (.istore_n 3, 1) := by decide +kernel
theorem dX12_stayAt_4 : decode cX12_stayAt 4 = .ok (.iload_n 3, 1) := by decide +kernel
theorem dX12_stayAt_5 : decode cX12_stayAt 5 = .ok (.aload_n 0, 1) := by decide +kernel
theorem dX12_stayAt_6 : decode cX12_stayAt 6 = .ok (.getfield 13, 3) := by decide +kernel
theorem dX12_stayAt_9 : decode cX12_stayAt 9 = .ok (.bipush 6, 2) := by decide +kernel
theorem dX12_stayAt_11 : decode cX12_stayAt 11 = .ok (.iaload, 1) := by decide +kernel
theorem dX12_stayAt_12 : decode cX12_stayAt 12 = .ok (.if_icmp .ge 40, 3) := by decide +kernel
theorem dX12_stayAt_15 : decode cX12_stayAt 15 = .ok (.aload_n 0, 1) := by decide +kernel
theorem dX12_stayAt_16 : decode cX12_stayAt 16 = .ok (.getfield 35, 3) := by decide +kernel
theorem dX12_stayAt_19 : decode cX12_stayAt 19 = .ok (.iload_n 3, 1) := by decide +kernel
theorem dX12_stayAt_20 : decode cX12_stayAt 20 = .ok (.iaload, 1) := by decide +kernel
theorem dX12_stayAt_21 : decode cX12_stayAt 21 = .ok (.iload_n 1, 1) := by decide +kernel
theorem dX12_stayAt_22 : decode cX12_stayAt 22 = .ok (.if_icmp .ne 24, 3) := by decide +kernel
theorem dX12_stayAt_25 : decode cX12_stayAt 25 = .ok (.aload_n 0, 1) := by decide +kernel
theorem dX12_stayAt_26 : decode cX12_stayAt 26 = .ok (.iload_n 3, 1) := by decide +kernel
theorem dX12_stayAt_27 : decode cX12_stayAt 27 = .ok (.invokevirtual 230, 3) := by decide +kernel
theorem dX12_stayAt_30 : decode cX12_stayAt 30 = .ok (.ifCond .le 16, 3) := by decide +kernel
theorem dX12_stayAt_33 : decode cX12_stayAt 33 = .ok (.iload_n 2, 1) := by decide +kernel
theorem dX12_stayAt_34 : decode cX12_stayAt 34 = .ok (.iconst 2, 1) := by decide +kernel
theorem dX12_stayAt_35 : decode cX12_stayAt 35 = .ok (.aload_n 0, 1) := by decide +kernel
theorem dX12_stayAt_36 : decode cX12_stayAt 36 = .ok (.getfield 38, 3) := by decide +kernel
theorem dX12_stayAt_39 : decode cX12_stayAt 39 = .ok (.iload_n 3, 1) := by decide +kernel
theorem dX12_stayAt_40 : decode cX12_stayAt 40 = .ok (.iaload, 1) := by decide +kernel
theorem dX12_stayAt_41 : decode cX12_stayAt 41 = .ok (.imul, 1) := by decide +kernel
theorem dX12_stayAt_42 : decode cX12_stayAt 42 = .ok (.iconst 1, 1) := by decide +kernel
theorem dX12_stayAt_43 : decode cX12_stayAt 43 = .ok (.iadd, 1) := by decide +kernel
theorem dX12_stayAt_44 : decode cX12_stayAt 44 = .ok (.iadd, 1) := by decide +kernel
theorem dX12_stayAt_45 : decode cX12_stayAt 45 = .ok (.istore_n 2, 1) := by decide +kernel
theorem dX12_stayAt_46 : decode cX12_stayAt 46 = .ok (.iinc 3 1, 3) := by decide +kernel
theorem dX12_stayAt_49 : decode cX12_stayAt 49 = .ok (.goto (-45), 3) := by decide +kernel
theorem dX12_stayAt_52 : decode cX12_stayAt 52 = .ok (.iload_n 2, 1) := by decide +kernel
theorem dX12_stayAt_53 : decode cX12_stayAt 53 = .ok (.ireturn, 1) := by decide +kernel
abbrev LX12_stayAt_4 (l1 l2 l3 : Int32) (I : MI) (Q : Int32 → MI → Prop) : Prop := WP mX12_stayAt 286 Rf0 4 [some (.ref 261), some (.int l1), some (.int l2), some (.int l3)] [] I (qi Q)
abbrev LX12_stayAt_46 (l1 l2 l3 : Int32) (I : MI) (Q : Int32 → MI → Prop) : Prop := WP mX12_stayAt 286 Rf0 46 [some (.ref 261), some (.int l1), some (.int l2), some (.int l3)] [] I (qi Q)
set_option maxRecDepth 20000 in
theorem rX12_stayAt_4 {l1 l2 l3 : Int32} {I : MI} {Q : Int32 → MI → Prop} (H : (vp_in 6 7 ∧ ((I 263 (6 : Int32).toNatClampNeg) ≤ l3 → (Q l2 I)) ∧ (¬ (I 263 (6 : Int32).toNatClampNeg) ≤ l3 → (vp_in l3 24 ∧ (¬ (I 270 l3.toNatClampNeg) = l1 → (LX12_stayAt_46 l1 l2 l3 I Q)) ∧ ((I 270 l3.toNatClampNeg) = l1 → (Wi mX12_demandOf [.ref 261, .int l3] I (fun r2 I1 => ((r2 ≤ 0 → (LX12_stayAt_46 l1 l2 l3 I1 Q)) ∧ (¬ r2 ≤ 0 → (vp_in l3 24 ∧ LX12_stayAt_46 l1 (l2 + ((2 * (I1 271 l3.toNatClampNeg)) + 1)) l3 I1 Q)))))))))) : LX12_stayAt_4 l1 l2 l3 I Q := by
  show WP mX12_stayAt 286 Rf0 4 [some (.ref 261), some (.int l1), some (.int l2), some (.int l3)] [] I (qi Q)
  refine w_iload_n dX12_stayAt_4 rfl rfl ?_
  refine w_aload_n dX12_stayAt_5 rfl rfl ?_
  refine w_getR dX12_stayAt_6 fl_12_13 okC12 kd_261 (by decide) (by decide) rfl rf_261_10 ?_
  refine w_bipush (v := 6) dX12_stayAt_9 (by decide) ?_
  refine w_iald dX12_stayAt_11 kd_263 (by decide) H.1 ?_
  replace H := H.2
  refine w_icmp_ge (t := 52) dX12_stayAt_12 (by decide) (fun h => ?_) (fun h => ?_)
  · replace H := H.1 h
    refine w_iload_n dX12_stayAt_52 rfl rfl ?_
    exact w_iret dX12_stayAt_53 rfl ⟨_, rfl, H⟩
  · replace H := H.2 h
    refine w_aload_n dX12_stayAt_15 rfl rfl ?_
    refine w_getR dX12_stayAt_16 fl_12_35 okC12 kd_261 (by decide) (by decide) rfl rf_261_17 ?_
    refine w_iload_n dX12_stayAt_19 rfl rfl ?_
    refine w_iald dX12_stayAt_20 kd_270 (by decide) H.1 ?_
    replace H := H.2
    refine w_iload_n dX12_stayAt_21 rfl rfl ?_
    refine w_icmp_ne (t := 46) dX12_stayAt_22 (by decide) (fun h => ?_) (fun h => ?_)
    · replace H := H.1 h
      skip
      exact H
    · replace H := H.2 h
      refine w_aload_n dX12_stayAt_25 rfl rfl ?_
      refine w_iload_n dX12_stayAt_26 rfl rfl ?_
      refine w_callV (st := []) (As := [.int l3]) dX12_stayAt_27 ml_12_230 okX12_demandOf kd_261 (by decide) rfl rfl rfl (Nat.le_of_ble_eq_true rfl) (by decide) (Nat.le_of_ble_eq_true rfl) (wc_i H (fun r2 I1 H => ?_))
      refine w_if_le (t := 46) dX12_stayAt_30 (by decide) (fun h => ?_) (fun h => ?_)
      · replace H := H.1 h
        skip
        exact H
      · replace H := H.2 h
        refine w_iload_n dX12_stayAt_33 rfl rfl ?_
        refine w_iconst (v := 2) dX12_stayAt_34 (by decide) ?_
        refine w_aload_n dX12_stayAt_35 rfl rfl ?_
        refine w_getR dX12_stayAt_36 fl_12_38 okC12 kd_261 (by decide) (by decide) rfl rf_261_18 ?_
        refine w_iload_n dX12_stayAt_39 rfl rfl ?_
        refine w_iald dX12_stayAt_40 kd_271 (by decide) H.1 ?_
        replace H := H.2
        refine w_imul dX12_stayAt_41 ?_
        refine w_iconst (v := 1) dX12_stayAt_42 (by decide) ?_
        refine w_iadd dX12_stayAt_43 ?_
        refine w_iadd dX12_stayAt_44 ?_
        refine w_istore_n (ls' := [some (.ref 261), some (.int l1), some (.int (l2 + ((2 * (I1 271 l3.toNatClampNeg)) + 1))), some (.int l3)]) dX12_stayAt_45 rfl (by decide) rfl rfl ?_
        skip
        exact H
set_option maxRecDepth 20000 in
theorem rX12_stayAt_46 {l1 l2 l3 : Int32} {I : MI} {Q : Int32 → MI → Prop} (H : (LX12_stayAt_4 l1 l2 (l3 + 1) I Q)) : LX12_stayAt_46 l1 l2 l3 I Q := by
  show WP mX12_stayAt 286 Rf0 46 [some (.ref 261), some (.int l1), some (.int l2), some (.int l3)] [] I (qi Q)
  refine w_iinc (v := l3 + 1) (ls' := [some (.ref 261), some (.int l1), some (.int l2), some (.int (l3 + 1))]) dX12_stayAt_46 rfl rfl (by decide) rfl rfl ?_
  refine w_goto (t := 4) dX12_stayAt_49 (by decide) ?_
  skip
  exact H
set_option maxRecDepth 20000 in
theorem rX12_stayAt {a1 : Int32} {I : MI} {Q : Int32 → MI → Prop} (H : (LX12_stayAt_4 a1 0 0 I Q)) : Wi mX12_stayAt [.ref 261, .int a1] I Q := by
  show WP mX12_stayAt 286 Rf0 0 [some (.ref 261), some (.int a1), none, none] [] I (qi Q)
  refine w_iconst (v := 0) dX12_stayAt_0 (by decide) ?_
  refine w_istore_n (ls' := [some (.ref 261), some (.int a1), some (.int 0), none]) dX12_stayAt_1 rfl (by decide) rfl rfl ?_
  refine w_iconst (v := 0) dX12_stayAt_2 (by decide) ?_
  refine w_istore_n (ls' := [some (.ref 261), some (.int a1), some (.int 0), some (.int 0)]) dX12_stayAt_3 rfl (by decide) rfl rfl ?_
  skip
  exact H
theorem dX12_bestEnd_0 : decode cX12_bestEnd 0 = .ok (.iload_n 3, 1) := by decide +kernel
theorem dX12_bestEnd_1 : decode cX12_bestEnd 1 = .ok (.ifCond .ne 11, 3) := by decide +kernel
theorem dX12_bestEnd_4 : decode cX12_bestEnd 4 = .ok (.aload_n 0, 1) := by decide +kernel
theorem dX12_bestEnd_5 : decode cX12_bestEnd 5 = .ok (.iload_n 1, 1) := by decide +kernel
theorem dX12_bestEnd_6 : decode cX12_bestEnd 6 = .ok (.iconst 0, 1) := by decide +kernel
theorem dX12_bestEnd_7 : decode cX12_bestEnd 7 = .ok (.iload_n 2, 1) := by decide +kernel
theorem dX12_bestEnd_8 : decode cX12_bestEnd 8 = .ok (.invokevirtual 226, 3) := by decide +kernel
theorem dX12_bestEnd_11 : decode cX12_bestEnd 11 = .ok (.ireturn, 1) := by decide +kernel
theorem dX12_bestEnd_12 : decode cX12_bestEnd 12 = .ok (.iconst 0, 1) := by decide +kernel
theorem dX12_bestEnd_13 : decode cX12_bestEnd 13 = .ok (.istore 4, 2) := by decide +kernel
theorem dX12_bestEnd_15 : decode cX12_bestEnd 15 = .ok (.iload 4, 2) := by decide +kernel
theorem dX12_bestEnd_17 : decode cX12_bestEnd 17 = .ok (.sipush 1024, 3) := by decide +kernel
theorem dX12_bestEnd_20 : decode cX12_bestEnd 20 = .ok (.if_icmp .ge 49, 3) := by decide +kernel
theorem dX12_bestEnd_23 : decode cX12_bestEnd 23 = .ok (.iload 4, 2) := by decide +kernel
theorem dX12_bestEnd_25 : decode cX12_bestEnd 25 = .ok (.iload_n 3, 1) := by decide +kernel
theorem dX12_bestEnd_26 : decode cX12_bestEnd 26 = .ok (.iconst (-1), 1) := by decide +kernel
theorem dX12_bestEnd_27 : decode cX12_bestEnd 27 = .ok (.ixor, 1) := by decide +kernel
theorem dX12_bestEnd_28 : decode cX12_bestEnd 28 = .ok (.iand, 1) := by decide +kernel
theorem dX12_bestEnd_29 : decode cX12_bestEnd 29 = .ok (.ifCond .ne 34, 3) := by decide +kernel
theorem dX12_bestEnd_32 : decode cX12_bestEnd 32 = .ok (.iconst 0, 1) := by decide +kernel
theorem dX12_bestEnd_33 : decode cX12_bestEnd 33 = .ok (.istore 5, 2) := by decide +kernel
theorem dX12_bestEnd_35 : decode cX12_bestEnd 35 = .ok (.iload 5, 2) := by decide +kernel
theorem dX12_bestEnd_37 : decode cX12_bestEnd 37 = .ok (.bipush 10, 2) := by decide +kernel
theorem dX12_bestEnd_39 : decode cX12_bestEnd 39 = .ok (.if_icmp .ge 24, 3) := by decide +kernel
theorem dX12_bestEnd_42 : decode cX12_bestEnd 42 = .ok (.aload_n 0, 1) := by decide +kernel
theorem dX12_bestEnd_43 : decode cX12_bestEnd 43 = .ok (.getfield 69, 3) := by decide +kernel
theorem dX12_bestEnd_46 : decode cX12_bestEnd 46 = .ok (.bipush 10, 2) := by decide +kernel
theorem dX12_bestEnd_48 : decode cX12_bestEnd 48 = .ok (.iload 4, 2) := by decide +kernel
theorem dX12_bestEnd_50 : decode cX12_bestEnd 50 = .ok (.imul, 1) := by decide +kernel
theorem dX12_bestEnd_51 : decode cX12_bestEnd 51 = .ok (.iload 5, 2) := by decide +kernel
theorem dX12_bestEnd_53 : decode cX12_bestEnd 53 = .ok (.iadd, 1) := by decide +kernel
theorem dX12_bestEnd_54 : decode cX12_bestEnd 54 = .ok (.ldc 205, 2) := by decide +kernel
theorem dX12_bestEnd_56 : decode cX12_bestEnd 56 = .ok (.iastore, 1) := by decide +kernel
theorem dX12_bestEnd_57 : decode cX12_bestEnd 57 = .ok (.iinc 5 1, 3) := by decide +kernel
theorem dX12_bestEnd_60 : decode cX12_bestEnd 60 = .ok (.goto (-25), 3) := by decide +kernel
theorem dX12_bestEnd_63 : decode cX12_bestEnd 63 = .ok (.iinc 4 1, 3) := by decide +kernel
theorem dX12_bestEnd_66 : decode cX12_bestEnd 66 = .ok (.goto (-51), 3) := by decide +kernel
theorem dX12_bestEnd_69 : decode cX12_bestEnd 69 = .ok (.aload_n 0, 1) := by decide +kernel
theorem dX12_bestEnd_70 : decode cX12_bestEnd 70 = .ok (.iload_n 1, 1) := by decide +kernel
theorem dX12_bestEnd_71 : decode cX12_bestEnd 71 = .ok (.iload_n 2, 1) := by decide +kernel
theorem dX12_bestEnd_72 : decode cX12_bestEnd 72 = .ok (.invokevirtual 214, 3) := by decide +kernel
theorem dX12_bestEnd_75 : decode cX12_bestEnd 75 = .ok (.iconst 0, 1) := by decide +kernel
theorem dX12_bestEnd_76 : decode cX12_bestEnd 76 = .ok (.istore 4, 2) := by decide +kernel
theorem dX12_bestEnd_78 : decode cX12_bestEnd 78 = .ok (.iload 4, 2) := by decide +kernel
theorem dX12_bestEnd_80 : decode cX12_bestEnd 80 = .ok (.bipush 10, 2) := by decide +kernel
theorem dX12_bestEnd_82 : decode cX12_bestEnd 82 = .ok (.if_icmp .ge 60, 3) := by decide +kernel
theorem dX12_bestEnd_85 : decode cX12_bestEnd 85 = .ok (.iload_n 3, 1) := by decide +kernel
theorem dX12_bestEnd_86 : decode cX12_bestEnd 86 = .ok (.iload 4, 2) := by decide +kernel
theorem dX12_bestEnd_88 : decode cX12_bestEnd 88 = .ok (.ishr, 1) := by decide +kernel
theorem dX12_bestEnd_89 : decode cX12_bestEnd 89 = .ok (.iconst 1, 1) := by decide +kernel
theorem dX12_bestEnd_90 : decode cX12_bestEnd 90 = .ok (.iand, 1) := by decide +kernel
theorem dX12_bestEnd_91 : decode cX12_bestEnd 91 = .ok (.iconst 1, 1) := by decide +kernel
theorem dX12_bestEnd_92 : decode cX12_bestEnd 92 = .ok (.if_icmp .ne 44, 3) := by decide +kernel
theorem dX12_bestEnd_95 : decode cX12_bestEnd 95 = .ok (.aload_n 0, 1) := by decide +kernel
theorem dX12_bestEnd_96 : decode cX12_bestEnd 96 = .ok (.getfield 60, 3) := by decide +kernel
theorem dX12_bestEnd_99 : decode cX12_bestEnd 99 = .ok (.iload 4, 2) := by decide +kernel
theorem dX12_bestEnd_101 : decode cX12_bestEnd 101 = .ok (.iaload, 1) := by decide +kernel
theorem dX12_bestEnd_102 : decode cX12_bestEnd 102 = .ok (.ldc 205, 2) := by decide +kernel
theorem dX12_bestEnd_104 : decode cX12_bestEnd 104 = .ok (.if_icmp .ge 32, 3) := by decide +kernel
theorem dX12_bestEnd_107 : decode cX12_bestEnd 107 = .ok (.aload_n 0, 1) := by decide +kernel
theorem dX12_bestEnd_108 : decode cX12_bestEnd 108 = .ok (.getfield 69, 3) := by decide +kernel
theorem dX12_bestEnd_111 : decode cX12_bestEnd 111 = .ok (.bipush 10, 2) := by decide +kernel
theorem dX12_bestEnd_113 : decode cX12_bestEnd 113 = .ok (.iconst 1, 1) := by decide +kernel
theorem dX12_bestEnd_114 : decode cX12_bestEnd 114 = .ok (.iload 4, 2) := by decide +kernel
theorem dX12_bestEnd_116 : decode cX12_bestEnd 116 = .ok (.ishl, 1) := by decide +kernel
theorem dX12_bestEnd_117 : decode cX12_bestEnd 117 = .ok (.imul, 1) := by decide +kernel
theorem dX12_bestEnd_118 : decode cX12_bestEnd 118 = .ok (.iload 4, 2) := by decide +kernel
theorem dX12_bestEnd_120 : decode cX12_bestEnd 120 = .ok (.iadd, 1) := by decide +kernel
theorem dX12_bestEnd_121 : decode cX12_bestEnd 121 = .ok (.aload_n 0, 1) := by decide +kernel
theorem dX12_bestEnd_122 : decode cX12_bestEnd 122 = .ok (.getfield 60, 3) := by decide +kernel
theorem dX12_bestEnd_125 : decode cX12_bestEnd 125 = .ok (.iload 4, 2) := by decide +kernel
theorem dX12_bestEnd_127 : decode cX12_bestEnd 127 = .ok (.iaload, 1) := by decide +kernel
theorem dX12_bestEnd_128 : decode cX12_bestEnd 128 = .ok (.aload_n 0, 1) := by decide +kernel
theorem dX12_bestEnd_129 : decode cX12_bestEnd 129 = .ok (.iload 4, 2) := by decide +kernel
theorem dX12_bestEnd_131 : decode cX12_bestEnd 131 = .ok (.invokevirtual 245, 3) := by decide +kernel
theorem dX12_bestEnd_134 : decode cX12_bestEnd 134 = .ok (.iadd, 1) := by decide +kernel
theorem dX12_bestEnd_135 : decode cX12_bestEnd 135 = .ok (.iastore, 1) := by decide +kernel
theorem dX12_bestEnd_136 : decode cX12_bestEnd 136 = .ok (.iinc 4 1, 3) := by decide +kernel
theorem dX12_bestEnd_139 : decode cX12_bestEnd 139 = .ok (.goto (-61), 3) := by decide +kernel
theorem dX12_bestEnd_142 : decode cX12_bestEnd 142 = .ok (.iconst 1, 1) := by decide +kernel
theorem dX12_bestEnd_143 : decode cX12_bestEnd 143 = .ok (.istore 4, 2) := by decide +kernel
theorem dX12_bestEnd_145 : decode cX12_bestEnd 145 = .ok (.iload 4, 2) := by decide +kernel
theorem dX12_bestEnd_147 : decode cX12_bestEnd 147 = .ok (.sipush 1024, 3) := by decide +kernel
theorem dX12_bestEnd_150 : decode cX12_bestEnd 150 = .ok (.if_icmp .ge 70, 3) := by decide +kernel
theorem dX12_bestEnd_153 : decode cX12_bestEnd 153 = .ok (.iload 4, 2) := by decide +kernel
theorem dX12_bestEnd_155 : decode cX12_bestEnd 155 = .ok (.iload_n 3, 1) := by decide +kernel
theorem dX12_bestEnd_156 : decode cX12_bestEnd 156 = .ok (.iconst (-1), 1) := by decide +kernel
theorem dX12_bestEnd_157 : decode cX12_bestEnd 157 = .ok (.ixor, 1) := by decide +kernel
theorem dX12_bestEnd_158 : decode cX12_bestEnd 158 = .ok (.iand, 1) := by decide +kernel
theorem dX12_bestEnd_159 : decode cX12_bestEnd 159 = .ok (.ifCond .ne 55, 3) := by decide +kernel
theorem dX12_bestEnd_162 : decode cX12_bestEnd 162 = .ok (.iload 4, 2) := by decide +kernel
theorem dX12_bestEnd_164 : decode cX12_bestEnd 164 = .ok (.iload_n 3, 1) := by decide +kernel
theorem dX12_bestEnd_165 : decode cX12_bestEnd 165 = .ok (.if_icmp .ne 6, 3) := by decide +kernel
theorem dX12_bestEnd_168 : decode cX12_bestEnd 168 = .ok (.goto 46, 3) := by decide +kernel
theorem dX12_bestEnd_171 : decode cX12_bestEnd 171 = .ok (.iconst 0, 1) := by decide +kernel
theorem dX12_bestEnd_172 : decode cX12_bestEnd 172 = .ok (.istore 5, 2) := by decide +kernel
theorem dX12_bestEnd_174 : decode cX12_bestEnd 174 = .ok (.iload 5, 2) := by decide +kernel
theorem dX12_bestEnd_176 : decode cX12_bestEnd 176 = .ok (.bipush 10, 2) := by decide +kernel
theorem dX12_bestEnd_178 : decode cX12_bestEnd 178 = .ok (.if_icmp .ge 36, 3) := by decide +kernel
theorem dX12_bestEnd_181 : decode cX12_bestEnd 181 = .ok (.aload_n 0, 1) := by decide +kernel
theorem dX12_bestEnd_182 : decode cX12_bestEnd 182 = .ok (.getfield 69, 3) := by decide +kernel
theorem dX12_bestEnd_185 : decode cX12_bestEnd 185 = .ok (.bipush 10, 2) := by decide +kernel
theorem dX12_bestEnd_187 : decode cX12_bestEnd 187 = .ok (.iload 4, 2) := by decide +kernel
theorem dX12_bestEnd_189 : decode cX12_bestEnd 189 = .ok (.imul, 1) := by decide +kernel
theorem dX12_bestEnd_190 : decode cX12_bestEnd 190 = .ok (.iload 5, 2) := by decide +kernel
theorem dX12_bestEnd_192 : decode cX12_bestEnd 192 = .ok (.iadd, 1) := by decide +kernel
theorem dX12_bestEnd_193 : decode cX12_bestEnd 193 = .ok (.iaload, 1) := by decide +kernel
theorem dX12_bestEnd_194 : decode cX12_bestEnd 194 = .ok (.ldc 205, 2) := by decide +kernel
theorem dX12_bestEnd_196 : decode cX12_bestEnd 196 = .ok (.if_icmp .ge 12, 3) := by decide +kernel
theorem dX12_bestEnd_199 : decode cX12_bestEnd 199 = .ok (.aload_n 0, 1) := by decide +kernel
theorem dX12_bestEnd_200 : decode cX12_bestEnd 200 = .ok (.iload 4, 2) := by decide +kernel
theorem dX12_bestEnd_202 : decode cX12_bestEnd 202 = .ok (.iload 5, 2) := by decide +kernel
theorem dX12_bestEnd_204 : decode cX12_bestEnd 204 = .ok (.iload_n 3, 1) := by decide +kernel
theorem dX12_bestEnd_205 : decode cX12_bestEnd 205 = .ok (.invokevirtual 248, 3) := by decide +kernel
theorem dX12_bestEnd_208 : decode cX12_bestEnd 208 = .ok (.iinc 5 1, 3) := by decide +kernel
theorem dX12_bestEnd_211 : decode cX12_bestEnd 211 = .ok (.goto (-37), 3) := by decide +kernel
theorem dX12_bestEnd_214 : decode cX12_bestEnd 214 = .ok (.iinc 4 1, 3) := by decide +kernel
theorem dX12_bestEnd_217 : decode cX12_bestEnd 217 = .ok (.goto (-72), 3) := by decide +kernel
theorem dX12_bestEnd_220 : decode cX12_bestEnd 220 = .ok (.ldc 205, 2) := by decide +kernel
theorem dX12_bestEnd_222 : decode cX12_bestEnd 222 = .ok (.istore 4, 2) := by decide +kernel
theorem dX12_bestEnd_224 : decode cX12_bestEnd 224 = .ok (.iconst 0, 1) := by decide +kernel
theorem dX12_bestEnd_225 : decode cX12_bestEnd 225 = .ok (.istore 5, 2) := by decide +kernel
theorem dX12_bestEnd_227 : decode cX12_bestEnd 227 = .ok (.iload 5, 2) := by decide +kernel
theorem dX12_bestEnd_229 : decode cX12_bestEnd 229 = .ok (.bipush 10, 2) := by decide +kernel
theorem dX12_bestEnd_231 : decode cX12_bestEnd 231 = .ok (.if_icmp .ge 64, 3) := by decide +kernel
theorem dX12_bestEnd_234 : decode cX12_bestEnd 234 = .ok (.iload_n 3, 1) := by decide +kernel
theorem dX12_bestEnd_235 : decode cX12_bestEnd 235 = .ok (.iload 5, 2) := by decide +kernel
theorem dX12_bestEnd_237 : decode cX12_bestEnd 237 = .ok (.ishr, 1) := by decide +kernel
theorem dX12_bestEnd_238 : decode cX12_bestEnd 238 = .ok (.iconst 1, 1) := by decide +kernel
theorem dX12_bestEnd_239 : decode cX12_bestEnd 239 = .ok (.iand, 1) := by decide +kernel
theorem dX12_bestEnd_240 : decode cX12_bestEnd 240 = .ok (.ifCond .eq 49, 3) := by decide +kernel
theorem dX12_bestEnd_243 : decode cX12_bestEnd 243 = .ok (.aload_n 0, 1) := by decide +kernel
theorem dX12_bestEnd_244 : decode cX12_bestEnd 244 = .ok (.getfield 69, 3) := by decide +kernel
theorem dX12_bestEnd_247 : decode cX12_bestEnd 247 = .ok (.bipush 10, 2) := by decide +kernel
theorem dX12_bestEnd_249 : decode cX12_bestEnd 249 = .ok (.iload_n 3, 1) := by decide +kernel
theorem dX12_bestEnd_250 : decode cX12_bestEnd 250 = .ok (.imul, 1) := by decide +kernel
theorem dX12_bestEnd_251 : decode cX12_bestEnd 251 = .ok (.iload 5, 2) := by decide +kernel
theorem dX12_bestEnd_253 : decode cX12_bestEnd 253 = .ok (.iadd, 1) := by decide +kernel
theorem dX12_bestEnd_254 : decode cX12_bestEnd 254 = .ok (.iaload, 1) := by decide +kernel
theorem dX12_bestEnd_255 : decode cX12_bestEnd 255 = .ok (.ldc 205, 2) := by decide +kernel
theorem dX12_bestEnd_257 : decode cX12_bestEnd 257 = .ok (.if_icmp .ne 6, 3) := by decide +kernel
theorem dX12_bestEnd_260 : decode cX12_bestEnd 260 = .ok (.goto 29, 3) := by decide +kernel
theorem dX12_bestEnd_263 : decode cX12_bestEnd 263 = .ok (.iload 4, 2) := by decide +kernel
theorem dX12_bestEnd_265 : decode cX12_bestEnd 265 = .ok (.aload_n 0, 1) := by decide +kernel
theorem dX12_bestEnd_266 : decode cX12_bestEnd 266 = .ok (.iload 5, 2) := by decide +kernel
theorem dX12_bestEnd_268 : decode cX12_bestEnd 268 = .ok (.iconst 0, 1) := by decide +kernel
theorem dX12_bestEnd_269 : decode cX12_bestEnd 269 = .ok (.aload_n 0, 1) := by decide +kernel
theorem dX12_bestEnd_270 : decode cX12_bestEnd 270 = .ok (.getfield 69, 3) := by decide +kernel
theorem dX12_bestEnd_273 : decode cX12_bestEnd 273 = .ok (.bipush 10, 2) := by decide +kernel
theorem dX12_bestEnd_275 : decode cX12_bestEnd 275 = .ok (.iload_n 3, 1) := by decide +kernel
theorem dX12_bestEnd_276 : decode cX12_bestEnd 276 = .ok (.imul, 1) := by decide +kernel
theorem dX12_bestEnd_277 : decode cX12_bestEnd 277 = .ok (.iload 5, 2) := by decide +kernel
theorem dX12_bestEnd_279 : decode cX12_bestEnd 279 = .ok (.iadd, 1) := by decide +kernel
theorem dX12_bestEnd_280 : decode cX12_bestEnd 280 = .ok (.iaload, 1) := by decide +kernel
theorem dX12_bestEnd_281 : decode cX12_bestEnd 281 = .ok (.invokevirtual 226, 3) := by decide +kernel
theorem dX12_bestEnd_284 : decode cX12_bestEnd 284 = .ok (.invokestatic 209, 3) := by decide +kernel
theorem dX12_bestEnd_287 : decode cX12_bestEnd 287 = .ok (.istore 4, 2) := by decide +kernel
theorem dX12_bestEnd_289 : decode cX12_bestEnd 289 = .ok (.iinc 5 1, 3) := by decide +kernel
theorem dX12_bestEnd_292 : decode cX12_bestEnd 292 = .ok (.goto (-65), 3) := by decide +kernel
theorem dX12_bestEnd_295 : decode cX12_bestEnd 295 = .ok (.iload 4, 2) := by decide +kernel
theorem dX12_bestEnd_297 : decode cX12_bestEnd 297 = .ok (.ireturn, 1) := by decide +kernel
abbrev LX12_bestEnd_15 (l1 l2 l3 l4 : Int32) (I : MI) (Q : Int32 → MI → Prop) : Prop := WP mX12_bestEnd 286 Rf0 15 [some (.ref 261), some (.int l1), some (.int l2), some (.int l3), some (.int l4), none] [] I (qi Q)
abbrev LX12_bestEnd_35 (l1 l2 l3 l4 l5 : Int32) (I : MI) (Q : Int32 → MI → Prop) : Prop := WP mX12_bestEnd 286 Rf0 35 [some (.ref 261), some (.int l1), some (.int l2), some (.int l3), some (.int l4), some (.int l5)] [] I (qi Q)
abbrev LX12_bestEnd_63 (l1 l2 l3 l4 : Int32) (I : MI) (Q : Int32 → MI → Prop) : Prop := WP mX12_bestEnd 286 Rf0 63 [some (.ref 261), some (.int l1), some (.int l2), some (.int l3), some (.int l4), none] [] I (qi Q)
abbrev LX12_bestEnd_78 (l1 l2 l3 l4 : Int32) (I : MI) (Q : Int32 → MI → Prop) : Prop := WP mX12_bestEnd 286 Rf0 78 [some (.ref 261), some (.int l1), some (.int l2), some (.int l3), some (.int l4), none] [] I (qi Q)
abbrev LX12_bestEnd_136 (l1 l2 l3 l4 : Int32) (I : MI) (Q : Int32 → MI → Prop) : Prop := WP mX12_bestEnd 286 Rf0 136 [some (.ref 261), some (.int l1), some (.int l2), some (.int l3), some (.int l4), none] [] I (qi Q)
abbrev LX12_bestEnd_145 (l1 l2 l3 l4 : Int32) (I : MI) (Q : Int32 → MI → Prop) : Prop := WP mX12_bestEnd 286 Rf0 145 [some (.ref 261), some (.int l1), some (.int l2), some (.int l3), some (.int l4), none] [] I (qi Q)
abbrev LX12_bestEnd_174 (l1 l2 l3 l4 l5 : Int32) (I : MI) (Q : Int32 → MI → Prop) : Prop := WP mX12_bestEnd 286 Rf0 174 [some (.ref 261), some (.int l1), some (.int l2), some (.int l3), some (.int l4), some (.int l5)] [] I (qi Q)
abbrev LX12_bestEnd_208 (l1 l2 l3 l4 l5 : Int32) (I : MI) (Q : Int32 → MI → Prop) : Prop := WP mX12_bestEnd 286 Rf0 208 [some (.ref 261), some (.int l1), some (.int l2), some (.int l3), some (.int l4), some (.int l5)] [] I (qi Q)
abbrev LX12_bestEnd_214 (l1 l2 l3 l4 : Int32) (I : MI) (Q : Int32 → MI → Prop) : Prop := WP mX12_bestEnd 286 Rf0 214 [some (.ref 261), some (.int l1), some (.int l2), some (.int l3), some (.int l4), none] [] I (qi Q)
abbrev LX12_bestEnd_227 (l1 l2 l3 l4 l5 : Int32) (I : MI) (Q : Int32 → MI → Prop) : Prop := WP mX12_bestEnd 286 Rf0 227 [some (.ref 261), some (.int l1), some (.int l2), some (.int l3), some (.int l4), some (.int l5)] [] I (qi Q)
abbrev LX12_bestEnd_289 (l1 l2 l3 l4 l5 : Int32) (I : MI) (Q : Int32 → MI → Prop) : Prop := WP mX12_bestEnd 286 Rf0 289 [some (.ref 261), some (.int l1), some (.int l2), some (.int l3), some (.int l4), some (.int l5)] [] I (qi Q)
set_option maxRecDepth 20000 in
theorem rX12_bestEnd_15 {l1 l2 l3 l4 : Int32} {I : MI} {Q : Int32 → MI → Prop} (H : ((1024 ≤ l4 → (Wv mX12_layArrivals [.ref 261, .int l1, .int l2] I (fun I1 => (LX12_bestEnd_78 l1 l2 l3 0 I1 Q)))) ∧ (¬ 1024 ≤ l4 → ((¬ (l4 &&& (l3 ^^^ ((-1) : Int32))) = 0 → (LX12_bestEnd_63 l1 l2 l3 l4 I Q)) ∧ ((l4 &&& (l3 ^^^ ((-1) : Int32))) = 0 → (LX12_bestEnd_35 l1 l2 l3 l4 0 I Q)))))) : LX12_bestEnd_15 l1 l2 l3 l4 I Q := by
  show WP mX12_bestEnd 286 Rf0 15 [some (.ref 261), some (.int l1), some (.int l2), some (.int l3), some (.int l4), none] [] I (qi Q)
  refine w_iload dX12_bestEnd_15 rfl ?_
  refine w_sipush (v := 1024) dX12_bestEnd_17 (by decide) ?_
  refine w_icmp_ge (t := 69) dX12_bestEnd_20 (by decide) (fun h => ?_) (fun h => ?_)
  · replace H := H.1 h
    refine w_aload_n dX12_bestEnd_69 rfl rfl ?_
    refine w_iload_n dX12_bestEnd_70 rfl rfl ?_
    refine w_iload_n dX12_bestEnd_71 rfl rfl ?_
    refine w_callV (st := []) (As := [.int l1, .int l2]) dX12_bestEnd_72 ml_12_214 okX12_layArrivals kd_261 (by decide) rfl rfl rfl (Nat.le_of_ble_eq_true rfl) (by decide) (Nat.le_of_ble_eq_true rfl) (wc_v H (fun I1 H => ?_))
    refine w_iconst (v := 0) dX12_bestEnd_75 (by decide) ?_
    refine w_istore (ls' := [some (.ref 261), some (.int l1), some (.int l2), some (.int l3), some (.int 0), none]) dX12_bestEnd_76 (by decide) rfl rfl ?_
    skip
    exact H
  · replace H := H.2 h
    refine w_iload dX12_bestEnd_23 rfl ?_
    refine w_iload_n dX12_bestEnd_25 rfl rfl ?_
    refine w_iconst (v := (-1)) dX12_bestEnd_26 (by decide) ?_
    refine w_ixor dX12_bestEnd_27 ?_
    refine w_iand dX12_bestEnd_28 ?_
    refine w_if_ne (t := 63) dX12_bestEnd_29 (by decide) (fun h => ?_) (fun h => ?_)
    · replace H := H.1 h
      skip
      exact H
    · replace H := H.2 h
      refine w_iconst (v := 0) dX12_bestEnd_32 (by decide) ?_
      refine w_istore (ls' := [some (.ref 261), some (.int l1), some (.int l2), some (.int l3), some (.int l4), some (.int 0)]) dX12_bestEnd_33 (by decide) rfl rfl ?_
      skip
      exact H
set_option maxRecDepth 20000 in
theorem rX12_bestEnd_35 {l1 l2 l3 l4 l5 : Int32} {I : MI} {Q : Int32 → MI → Prop} (H : ((10 ≤ l5 → (LX12_bestEnd_63 l1 l2 l3 l4 I Q)) ∧ (¬ 10 ≤ l5 → (vp_in ((10 * l4) + l5) 10240 ∧ ∀ I1 : MI, I1 = up2 I 281 ((10 * l4) + l5).toNatClampNeg 1000000000 → LX12_bestEnd_35 l1 l2 l3 l4 (l5 + 1) I1 Q)))) : LX12_bestEnd_35 l1 l2 l3 l4 l5 I Q := by
  show WP mX12_bestEnd 286 Rf0 35 [some (.ref 261), some (.int l1), some (.int l2), some (.int l3), some (.int l4), some (.int l5)] [] I (qi Q)
  refine w_iload dX12_bestEnd_35 rfl ?_
  refine w_bipush (v := 10) dX12_bestEnd_37 (by decide) ?_
  refine w_icmp_ge (t := 63) dX12_bestEnd_39 (by decide) (fun h => ?_) (fun h => ?_)
  · replace H := H.1 h
    refine w_less (ls' := [some (.ref 261), some (.int l1), some (.int l2), some (.int l3), some (.int l4), none]) (by simp [lsub]) ?_
    exact H
  · replace H := H.2 h
    refine w_aload_n dX12_bestEnd_42 rfl rfl ?_
    refine w_getR dX12_bestEnd_43 fl_12_69 okC12 kd_261 (by decide) (by decide) rfl rf_261_31 ?_
    refine w_bipush (v := 10) dX12_bestEnd_46 (by decide) ?_
    refine w_iload dX12_bestEnd_48 rfl ?_
    refine w_imul dX12_bestEnd_50 ?_
    refine w_iload dX12_bestEnd_51 rfl ?_
    refine w_iadd dX12_bestEnd_53 ?_
    refine w_ldc (v := 1000000000) dX12_bestEnd_54 kl_12_205 ?_
    refine w_iast dX12_bestEnd_56 kd_281 (by decide) H.1 (w_up fun I1 hI => ?_)
    replace H := H.2 I1 hI
    refine w_iinc (v := l5 + 1) (ls' := [some (.ref 261), some (.int l1), some (.int l2), some (.int l3), some (.int l4), some (.int (l5 + 1))]) dX12_bestEnd_57 rfl rfl (by decide) rfl rfl ?_
    refine w_goto (t := 35) dX12_bestEnd_60 (by decide) ?_
    skip
    exact H
set_option maxRecDepth 20000 in
theorem rX12_bestEnd_63 {l1 l2 l3 l4 : Int32} {I : MI} {Q : Int32 → MI → Prop} (H : (LX12_bestEnd_15 l1 l2 l3 (l4 + 1) I Q)) : LX12_bestEnd_63 l1 l2 l3 l4 I Q := by
  show WP mX12_bestEnd 286 Rf0 63 [some (.ref 261), some (.int l1), some (.int l2), some (.int l3), some (.int l4), none] [] I (qi Q)
  refine w_iinc (v := l4 + 1) (ls' := [some (.ref 261), some (.int l1), some (.int l2), some (.int l3), some (.int (l4 + 1)), none]) dX12_bestEnd_63 rfl rfl (by decide) rfl rfl ?_
  refine w_goto (t := 15) dX12_bestEnd_66 (by decide) ?_
  skip
  exact H
set_option maxRecDepth 20000 in
theorem rX12_bestEnd_78 {l1 l2 l3 l4 : Int32} {I : MI} {Q : Int32 → MI → Prop} (H : ((10 ≤ l4 → (LX12_bestEnd_145 l1 l2 l3 1 I Q)) ∧ (¬ 10 ≤ l4 → ((¬ ((l3 >>> (l4 &&& 31)) &&& (1 : Int32)) = 1 → (LX12_bestEnd_136 l1 l2 l3 l4 I Q)) ∧ (((l3 >>> (l4 &&& 31)) &&& (1 : Int32)) = 1 → (vp_in l4 10 ∧ (1000000000 ≤ (I 278 l4.toNatClampNeg) → (LX12_bestEnd_136 l1 l2 l3 l4 I Q)) ∧ (¬ 1000000000 ≤ (I 278 l4.toNatClampNeg) → (vp_in l4 10 ∧ Wi mX12_stayAt [.ref 261, .int l4] I (fun r2 I1 => (vp_in ((10 * ((1 : Int32) <<< (l4 &&& 31))) + l4) 10240 ∧ ∀ I3 : MI, I3 = up2 I1 281 ((10 * ((1 : Int32) <<< (l4 &&& 31))) + l4).toNatClampNeg ((I 278 l4.toNatClampNeg) + r2) → LX12_bestEnd_136 l1 l2 l3 l4 I3 Q)))))))))) : LX12_bestEnd_78 l1 l2 l3 l4 I Q := by
  show WP mX12_bestEnd 286 Rf0 78 [some (.ref 261), some (.int l1), some (.int l2), some (.int l3), some (.int l4), none] [] I (qi Q)
  refine w_iload dX12_bestEnd_78 rfl ?_
  refine w_bipush (v := 10) dX12_bestEnd_80 (by decide) ?_
  refine w_icmp_ge (t := 142) dX12_bestEnd_82 (by decide) (fun h => ?_) (fun h => ?_)
  · replace H := H.1 h
    refine w_iconst (v := 1) dX12_bestEnd_142 (by decide) ?_
    refine w_istore (ls' := [some (.ref 261), some (.int l1), some (.int l2), some (.int l3), some (.int 1), none]) dX12_bestEnd_143 (by decide) rfl rfl ?_
    skip
    exact H
  · replace H := H.2 h
    refine w_iload_n dX12_bestEnd_85 rfl rfl ?_
    refine w_iload dX12_bestEnd_86 rfl ?_
    refine w_ishr dX12_bestEnd_88 ?_
    refine w_iconst (v := 1) dX12_bestEnd_89 (by decide) ?_
    refine w_iand dX12_bestEnd_90 ?_
    refine w_iconst (v := 1) dX12_bestEnd_91 (by decide) ?_
    refine w_icmp_ne (t := 136) dX12_bestEnd_92 (by decide) (fun h => ?_) (fun h => ?_)
    · replace H := H.1 h
      skip
      exact H
    · replace H := H.2 h
      refine w_aload_n dX12_bestEnd_95 rfl rfl ?_
      refine w_getR dX12_bestEnd_96 fl_12_60 okC12 kd_261 (by decide) (by decide) rfl rf_261_27 ?_
      refine w_iload dX12_bestEnd_99 rfl ?_
      refine w_iald dX12_bestEnd_101 kd_278 (by decide) H.1 ?_
      replace H := H.2
      refine w_ldc (v := 1000000000) dX12_bestEnd_102 kl_12_205 ?_
      refine w_icmp_ge (t := 136) dX12_bestEnd_104 (by decide) (fun h => ?_) (fun h => ?_)
      · replace H := H.1 h
        skip
        exact H
      · replace H := H.2 h
        refine w_aload_n dX12_bestEnd_107 rfl rfl ?_
        refine w_getR dX12_bestEnd_108 fl_12_69 okC12 kd_261 (by decide) (by decide) rfl rf_261_31 ?_
        refine w_bipush (v := 10) dX12_bestEnd_111 (by decide) ?_
        refine w_iconst (v := 1) dX12_bestEnd_113 (by decide) ?_
        refine w_iload dX12_bestEnd_114 rfl ?_
        refine w_ishl dX12_bestEnd_116 ?_
        refine w_imul dX12_bestEnd_117 ?_
        refine w_iload dX12_bestEnd_118 rfl ?_
        refine w_iadd dX12_bestEnd_120 ?_
        refine w_aload_n dX12_bestEnd_121 rfl rfl ?_
        refine w_getR dX12_bestEnd_122 fl_12_60 okC12 kd_261 (by decide) (by decide) rfl rf_261_27 ?_
        refine w_iload dX12_bestEnd_125 rfl ?_
        refine w_iald dX12_bestEnd_127 kd_278 (by decide) H.1 ?_
        replace H := H.2
        refine w_aload_n dX12_bestEnd_128 rfl rfl ?_
        refine w_iload dX12_bestEnd_129 rfl ?_
        refine w_callV (st := [.int (I 278 l4.toNatClampNeg), .int ((10 * ((1 : Int32) <<< (l4 &&& 31))) + l4), .ref 281]) (As := [.int l4]) dX12_bestEnd_131 ml_12_245 okX12_stayAt kd_261 (by decide) rfl rfl rfl (Nat.le_of_ble_eq_true rfl) (by decide) (Nat.le_of_ble_eq_true rfl) (wc_i H (fun r2 I1 H => ?_))
        refine w_iadd dX12_bestEnd_134 ?_
        refine w_iast dX12_bestEnd_135 kd_281 (by decide) H.1 (w_up fun I3 hI => ?_)
        replace H := H.2 I3 hI
        skip
        exact H
set_option maxRecDepth 20000 in
theorem rX12_bestEnd_136 {l1 l2 l3 l4 : Int32} {I : MI} {Q : Int32 → MI → Prop} (H : (LX12_bestEnd_78 l1 l2 l3 (l4 + 1) I Q)) : LX12_bestEnd_136 l1 l2 l3 l4 I Q := by
  show WP mX12_bestEnd 286 Rf0 136 [some (.ref 261), some (.int l1), some (.int l2), some (.int l3), some (.int l4), none] [] I (qi Q)
  refine w_iinc (v := l4 + 1) (ls' := [some (.ref 261), some (.int l1), some (.int l2), some (.int l3), some (.int (l4 + 1)), none]) dX12_bestEnd_136 rfl rfl (by decide) rfl rfl ?_
  refine w_goto (t := 78) dX12_bestEnd_139 (by decide) ?_
  skip
  exact H
set_option maxRecDepth 20000 in
theorem rX12_bestEnd_145 {l1 l2 l3 l4 : Int32} {I : MI} {Q : Int32 → MI → Prop} (H : ((1024 ≤ l4 → (LX12_bestEnd_227 l1 l2 l3 1000000000 0 I Q)) ∧ (¬ 1024 ≤ l4 → ((¬ (l4 &&& (l3 ^^^ ((-1) : Int32))) = 0 → (LX12_bestEnd_214 l1 l2 l3 l4 I Q)) ∧ ((l4 &&& (l3 ^^^ ((-1) : Int32))) = 0 → ((¬ l4 = l3 → (LX12_bestEnd_174 l1 l2 l3 l4 0 I Q)) ∧ (l4 = l3 → (LX12_bestEnd_214 l1 l2 l3 l4 I Q)))))))) : LX12_bestEnd_145 l1 l2 l3 l4 I Q := by
  show WP mX12_bestEnd 286 Rf0 145 [some (.ref 261), some (.int l1), some (.int l2), some (.int l3), some (.int l4), none] [] I (qi Q)
  refine w_iload dX12_bestEnd_145 rfl ?_
  refine w_sipush (v := 1024) dX12_bestEnd_147 (by decide) ?_
  refine w_icmp_ge (t := 220) dX12_bestEnd_150 (by decide) (fun h => ?_) (fun h => ?_)
  · replace H := H.1 h
    refine w_ldc (v := 1000000000) dX12_bestEnd_220 kl_12_205 ?_
    refine w_istore (ls' := [some (.ref 261), some (.int l1), some (.int l2), some (.int l3), some (.int 1000000000), none]) dX12_bestEnd_222 (by decide) rfl rfl ?_
    refine w_iconst (v := 0) dX12_bestEnd_224 (by decide) ?_
    refine w_istore (ls' := [some (.ref 261), some (.int l1), some (.int l2), some (.int l3), some (.int 1000000000), some (.int 0)]) dX12_bestEnd_225 (by decide) rfl rfl ?_
    skip
    exact H
  · replace H := H.2 h
    refine w_iload dX12_bestEnd_153 rfl ?_
    refine w_iload_n dX12_bestEnd_155 rfl rfl ?_
    refine w_iconst (v := (-1)) dX12_bestEnd_156 (by decide) ?_
    refine w_ixor dX12_bestEnd_157 ?_
    refine w_iand dX12_bestEnd_158 ?_
    refine w_if_ne (t := 214) dX12_bestEnd_159 (by decide) (fun h => ?_) (fun h => ?_)
    · replace H := H.1 h
      skip
      exact H
    · replace H := H.2 h
      refine w_iload dX12_bestEnd_162 rfl ?_
      refine w_iload_n dX12_bestEnd_164 rfl rfl ?_
      refine w_icmp_ne (t := 171) dX12_bestEnd_165 (by decide) (fun h => ?_) (fun h => ?_)
      · replace H := H.1 h
        refine w_iconst (v := 0) dX12_bestEnd_171 (by decide) ?_
        refine w_istore (ls' := [some (.ref 261), some (.int l1), some (.int l2), some (.int l3), some (.int l4), some (.int 0)]) dX12_bestEnd_172 (by decide) rfl rfl ?_
        skip
        exact H
      · replace H := H.2 h
        refine w_goto (t := 214) dX12_bestEnd_168 (by decide) ?_
        skip
        exact H
set_option maxRecDepth 20000 in
theorem rX12_bestEnd_174 {l1 l2 l3 l4 l5 : Int32} {I : MI} {Q : Int32 → MI → Prop} (H : ((10 ≤ l5 → (LX12_bestEnd_214 l1 l2 l3 l4 I Q)) ∧ (¬ 10 ≤ l5 → (vp_in ((10 * l4) + l5) 10240 ∧ (1000000000 ≤ (I 281 ((10 * l4) + l5).toNatClampNeg) → (LX12_bestEnd_208 l1 l2 l3 l4 l5 I Q)) ∧ (¬ 1000000000 ≤ (I 281 ((10 * l4) + l5).toNatClampNeg) → (Wv mX12_goesOn [.ref 261, .int l4, .int l5, .int l3] I (fun I1 => (LX12_bestEnd_208 l1 l2 l3 l4 l5 I1 Q)))))))) : LX12_bestEnd_174 l1 l2 l3 l4 l5 I Q := by
  show WP mX12_bestEnd 286 Rf0 174 [some (.ref 261), some (.int l1), some (.int l2), some (.int l3), some (.int l4), some (.int l5)] [] I (qi Q)
  refine w_iload dX12_bestEnd_174 rfl ?_
  refine w_bipush (v := 10) dX12_bestEnd_176 (by decide) ?_
  refine w_icmp_ge (t := 214) dX12_bestEnd_178 (by decide) (fun h => ?_) (fun h => ?_)
  · replace H := H.1 h
    refine w_less (ls' := [some (.ref 261), some (.int l1), some (.int l2), some (.int l3), some (.int l4), none]) (by simp [lsub]) ?_
    exact H
  · replace H := H.2 h
    refine w_aload_n dX12_bestEnd_181 rfl rfl ?_
    refine w_getR dX12_bestEnd_182 fl_12_69 okC12 kd_261 (by decide) (by decide) rfl rf_261_31 ?_
    refine w_bipush (v := 10) dX12_bestEnd_185 (by decide) ?_
    refine w_iload dX12_bestEnd_187 rfl ?_
    refine w_imul dX12_bestEnd_189 ?_
    refine w_iload dX12_bestEnd_190 rfl ?_
    refine w_iadd dX12_bestEnd_192 ?_
    refine w_iald dX12_bestEnd_193 kd_281 (by decide) H.1 ?_
    replace H := H.2
    refine w_ldc (v := 1000000000) dX12_bestEnd_194 kl_12_205 ?_
    refine w_icmp_ge (t := 208) dX12_bestEnd_196 (by decide) (fun h => ?_) (fun h => ?_)
    · replace H := H.1 h
      skip
      exact H
    · replace H := H.2 h
      refine w_aload_n dX12_bestEnd_199 rfl rfl ?_
      refine w_iload dX12_bestEnd_200 rfl ?_
      refine w_iload dX12_bestEnd_202 rfl ?_
      refine w_iload_n dX12_bestEnd_204 rfl rfl ?_
      refine w_callV (st := []) (As := [.int l4, .int l5, .int l3]) dX12_bestEnd_205 ml_12_248 okX12_goesOn kd_261 (by decide) rfl rfl rfl (Nat.le_of_ble_eq_true rfl) (by decide) (Nat.le_of_ble_eq_true rfl) (wc_v H (fun I1 H => ?_))
      skip
      exact H
set_option maxRecDepth 20000 in
theorem rX12_bestEnd_208 {l1 l2 l3 l4 l5 : Int32} {I : MI} {Q : Int32 → MI → Prop} (H : (LX12_bestEnd_174 l1 l2 l3 l4 (l5 + 1) I Q)) : LX12_bestEnd_208 l1 l2 l3 l4 l5 I Q := by
  show WP mX12_bestEnd 286 Rf0 208 [some (.ref 261), some (.int l1), some (.int l2), some (.int l3), some (.int l4), some (.int l5)] [] I (qi Q)
  refine w_iinc (v := l5 + 1) (ls' := [some (.ref 261), some (.int l1), some (.int l2), some (.int l3), some (.int l4), some (.int (l5 + 1))]) dX12_bestEnd_208 rfl rfl (by decide) rfl rfl ?_
  refine w_goto (t := 174) dX12_bestEnd_211 (by decide) ?_
  skip
  exact H
set_option maxRecDepth 20000 in
theorem rX12_bestEnd_214 {l1 l2 l3 l4 : Int32} {I : MI} {Q : Int32 → MI → Prop} (H : (LX12_bestEnd_145 l1 l2 l3 (l4 + 1) I Q)) : LX12_bestEnd_214 l1 l2 l3 l4 I Q := by
  show WP mX12_bestEnd 286 Rf0 214 [some (.ref 261), some (.int l1), some (.int l2), some (.int l3), some (.int l4), none] [] I (qi Q)
  refine w_iinc (v := l4 + 1) (ls' := [some (.ref 261), some (.int l1), some (.int l2), some (.int l3), some (.int (l4 + 1)), none]) dX12_bestEnd_214 rfl rfl (by decide) rfl rfl ?_
  refine w_goto (t := 145) dX12_bestEnd_217 (by decide) ?_
  skip
  exact H
set_option maxRecDepth 20000 in
theorem rX12_bestEnd_227 {l1 l2 l3 l4 l5 : Int32} {I : MI} {Q : Int32 → MI → Prop} (H : ((10 ≤ l5 → (Q l4 I)) ∧ (¬ 10 ≤ l5 → ((((l3 >>> (l5 &&& 31)) &&& (1 : Int32)) = 0 → (LX12_bestEnd_289 l1 l2 l3 l4 l5 I Q)) ∧ (¬ ((l3 >>> (l5 &&& 31)) &&& (1 : Int32)) = 0 → (vp_in ((10 * l3) + l5) 10240 ∧ (¬ (I 281 ((10 * l3) + l5).toNatClampNeg) = 1000000000 → (vp_in ((10 * l3) + l5) 10240 ∧ Wi mX12_arrivalOf [.ref 261, .int l5, .int 0, .int (I 281 ((10 * l3) + l5).toNatClampNeg)] I (fun r2 I1 => (∀ x3 : Int32, x3 = (if r2 < l4 then r2 else l4) → LX12_bestEnd_289 l1 l2 l3 x3 l5 I1 Q)))) ∧ ((I 281 ((10 * l3) + l5).toNatClampNeg) = 1000000000 → (LX12_bestEnd_289 l1 l2 l3 l4 l5 I Q)))))))) : LX12_bestEnd_227 l1 l2 l3 l4 l5 I Q := by
  show WP mX12_bestEnd 286 Rf0 227 [some (.ref 261), some (.int l1), some (.int l2), some (.int l3), some (.int l4), some (.int l5)] [] I (qi Q)
  refine w_iload dX12_bestEnd_227 rfl ?_
  refine w_bipush (v := 10) dX12_bestEnd_229 (by decide) ?_
  refine w_icmp_ge (t := 295) dX12_bestEnd_231 (by decide) (fun h => ?_) (fun h => ?_)
  · replace H := H.1 h
    refine w_iload dX12_bestEnd_295 rfl ?_
    exact w_iret dX12_bestEnd_297 rfl ⟨_, rfl, H⟩
  · replace H := H.2 h
    refine w_iload_n dX12_bestEnd_234 rfl rfl ?_
    refine w_iload dX12_bestEnd_235 rfl ?_
    refine w_ishr dX12_bestEnd_237 ?_
    refine w_iconst (v := 1) dX12_bestEnd_238 (by decide) ?_
    refine w_iand dX12_bestEnd_239 ?_
    refine w_if_eq (t := 289) dX12_bestEnd_240 (by decide) (fun h => ?_) (fun h => ?_)
    · replace H := H.1 h
      skip
      exact H
    · replace H := H.2 h
      refine w_aload_n dX12_bestEnd_243 rfl rfl ?_
      refine w_getR dX12_bestEnd_244 fl_12_69 okC12 kd_261 (by decide) (by decide) rfl rf_261_31 ?_
      refine w_bipush (v := 10) dX12_bestEnd_247 (by decide) ?_
      refine w_iload_n dX12_bestEnd_249 rfl rfl ?_
      refine w_imul dX12_bestEnd_250 ?_
      refine w_iload dX12_bestEnd_251 rfl ?_
      refine w_iadd dX12_bestEnd_253 ?_
      refine w_iald dX12_bestEnd_254 kd_281 (by decide) H.1 ?_
      replace H := H.2
      refine w_ldc (v := 1000000000) dX12_bestEnd_255 kl_12_205 ?_
      refine w_icmp_ne (t := 263) dX12_bestEnd_257 (by decide) (fun h => ?_) (fun h => ?_)
      · replace H := H.1 h
        refine w_iload dX12_bestEnd_263 rfl ?_
        refine w_aload_n dX12_bestEnd_265 rfl rfl ?_
        refine w_iload dX12_bestEnd_266 rfl ?_
        refine w_iconst (v := 0) dX12_bestEnd_268 (by decide) ?_
        refine w_aload_n dX12_bestEnd_269 rfl rfl ?_
        refine w_getR dX12_bestEnd_270 fl_12_69 okC12 kd_261 (by decide) (by decide) rfl rf_261_31 ?_
        refine w_bipush (v := 10) dX12_bestEnd_273 (by decide) ?_
        refine w_iload_n dX12_bestEnd_275 rfl rfl ?_
        refine w_imul dX12_bestEnd_276 ?_
        refine w_iload dX12_bestEnd_277 rfl ?_
        refine w_iadd dX12_bestEnd_279 ?_
        refine w_iald dX12_bestEnd_280 kd_281 (by decide) H.1 ?_
        replace H := H.2
        refine w_callV (st := [.int l4]) (As := [.int l5, .int 0, .int (I 281 ((10 * l3) + l5).toNatClampNeg)]) dX12_bestEnd_281 ml_12_226 okX12_arrivalOf kd_261 (by decide) rfl rfl rfl (Nat.le_of_ble_eq_true rfl) (by decide) (Nat.le_of_ble_eq_true rfl) (wc_i H (fun r2 I1 H => ?_))
        refine w_min dX12_bestEnd_284 ml_12_209 minS maI minC (by decide) (Nat.le_of_ble_eq_true rfl) ?_
        refine w_top fun x3 hx => ?_
        replace H := H x3 hx
        refine w_istore (ls' := [some (.ref 261), some (.int l1), some (.int l2), some (.int l3), some (.int x3), some (.int l5)]) dX12_bestEnd_287 (by decide) rfl rfl ?_
        skip
        exact H
      · replace H := H.2 h
        refine w_goto (t := 289) dX12_bestEnd_260 (by decide) ?_
        skip
        exact H
set_option maxRecDepth 20000 in
theorem rX12_bestEnd_289 {l1 l2 l3 l4 l5 : Int32} {I : MI} {Q : Int32 → MI → Prop} (H : (LX12_bestEnd_227 l1 l2 l3 l4 (l5 + 1) I Q)) : LX12_bestEnd_289 l1 l2 l3 l4 l5 I Q := by
  show WP mX12_bestEnd 286 Rf0 289 [some (.ref 261), some (.int l1), some (.int l2), some (.int l3), some (.int l4), some (.int l5)] [] I (qi Q)
  refine w_iinc (v := l5 + 1) (ls' := [some (.ref 261), some (.int l1), some (.int l2), some (.int l3), some (.int l4), some (.int (l5 + 1))]) dX12_bestEnd_289 rfl rfl (by decide) rfl rfl ?_
  refine w_goto (t := 227) dX12_bestEnd_292 (by decide) ?_
  skip
  exact H
set_option maxRecDepth 20000 in
theorem rX12_bestEnd {a1 a2 a3 : Int32} {I : MI} {Q : Int32 → MI → Prop} (H : ((¬ a3 = 0 → (LX12_bestEnd_15 a1 a2 a3 0 I Q)) ∧ (a3 = 0 → (Wi mX12_arrivalOf [.ref 261, .int a1, .int 0, .int a2] I (fun r2 I1 => (Q r2 I1)))))) : Wi mX12_bestEnd [.ref 261, .int a1, .int a2, .int a3] I Q := by
  show WP mX12_bestEnd 286 Rf0 0 [some (.ref 261), some (.int a1), some (.int a2), some (.int a3), none, none] [] I (qi Q)
  refine w_iload_n dX12_bestEnd_0 rfl rfl ?_
  refine w_if_ne (t := 12) dX12_bestEnd_1 (by decide) (fun h => ?_) (fun h => ?_)
  · replace H := H.1 h
    refine w_iconst (v := 0) dX12_bestEnd_12 (by decide) ?_
    refine w_istore (ls' := [some (.ref 261), some (.int a1), some (.int a2), some (.int a3), some (.int 0), none]) dX12_bestEnd_13 (by decide) rfl rfl ?_
    skip
    exact H
  · replace H := H.2 h
    refine w_aload_n dX12_bestEnd_4 rfl rfl ?_
    refine w_iload_n dX12_bestEnd_5 rfl rfl ?_
    refine w_iconst (v := 0) dX12_bestEnd_6 (by decide) ?_
    refine w_iload_n dX12_bestEnd_7 rfl rfl ?_
    refine w_callV (st := []) (As := [.int a1, .int 0, .int a2]) dX12_bestEnd_8 ml_12_226 okX12_arrivalOf kd_261 (by decide) rfl rfl rfl (Nat.le_of_ble_eq_true rfl) (by decide) (Nat.le_of_ble_eq_true rfl) (wc_i H (fun r2 I1 H => ?_))
    exact w_iret dX12_bestEnd_11 rfl ⟨_, rfl, H⟩
theorem dX12_goesOn_0 : decode cX12_goesOn 0 = .ok (.aload_n 0, 1) := by decide +kernel
theorem dX12_goesOn_1 : decode cX12_goesOn 1 = .ok (.iload_n 2, 1) := by decide +kernel
theorem dX12_goesOn_2 : decode cX12_goesOn 2 = .ok (.aload_n 0, 1) := by decide +kernel
theorem dX12_goesOn_3 : decode cX12_goesOn 3 = .ok (.getfield 69, 3) := by decide +kernel
theorem dX12_goesOn_6 : decode cX12_goesOn 6 = .ok (.bipush 10, 2) := by decide +kernel
theorem dX12_goesOn_8 : decode cX12_goesOn 8 = .ok (.iload_n 1, 1) := by decide +kernel
theorem dX12_goesOn_9 : decode cX12_goesOn 9 = .ok (.imul, 1) := by decide +kernel
theorem dX12_goesOn_10 : decode cX12_goesOn 10 = .ok (.iload_n 2, 1) := by decide +kernel
theorem dX12_goesOn_11 : decode cX12_goesOn 11 = .ok (.iadd, 1) := by decide +kernel
theorem dX12_goesOn_12 : decode cX12_goesOn 12 = .ok (.iaload, 1) := by decide +kernel
theorem dX12_goesOn_13 : decode cX12_goesOn 13 = .ok (.invokevirtual 214, 3) := by decide +kernel
theorem dX12_goesOn_16 : decode cX12_goesOn 16 = .ok (.iconst 0, 1) := by decide +kernel
theorem dX12_goesOn_17 : decode cX12_goesOn 17 = .ok (.istore 4, 2) := by decide +kernel
theorem dX12_goesOn_19 : decode cX12_goesOn 19 = .ok (.iload 4, 2) := by decide +kernel
theorem dX12_goesOn_21 : decode cX12_goesOn 21 = .ok (.bipush 10, 2) := by decide +kernel
theorem dX12_goesOn_23 : decode cX12_goesOn 23 = .ok (.if_icmp .ge 82, 3) := by decide +kernel
theorem dX12_goesOn_26 : decode cX12_goesOn 26 = .ok (.iload_n 3, 1) := by decide +kernel
theorem dX12_goesOn_27 : decode cX12_goesOn 27 = .ok (.iload_n 1, 1) := by decide +kernel
theorem dX12_goesOn_28 : decode cX12_goesOn 28 = .ok (.iconst (-1), 1) := by decide +kernel
theorem dX12_goesOn_29 : decode cX12_goesOn 29 = .ok (.ixor, 1) := by decide +kernel
theorem dX12_goesOn_30 : decode cX12_goesOn 30 = .ok (.iand, 1) := by decide +kernel
theorem dX12_goesOn_31 : decode cX12_goesOn 31 = .ok (.iconst 1, 1) := by decide +kernel
theorem dX12_goesOn_32 : decode cX12_goesOn 32 = .ok (.iload 4, 2) := by decide +kernel
theorem dX12_goesOn_34 : decode cX12_goesOn 34 = .ok (.ishl, 1) := by decide +kernel
theorem dX12_goesOn_35 : decode cX12_goesOn 35 = .ok (.iand, 1) := by decide +kernel
theorem dX12_goesOn_36 : decode cX12_goesOn 36 = .ok (.ifCond .eq 63, 3) := by decide +kernel
theorem dX12_goesOn_39 : decode cX12_goesOn 39 = .ok (.aload_n 0, 1) := by decide +kernel
theorem dX12_goesOn_40 : decode cX12_goesOn 40 = .ok (.getfield 60, 3) := by decide +kernel
theorem dX12_goesOn_43 : decode cX12_goesOn 43 = .ok (.iload 4, 2) := by decide +kernel
theorem dX12_goesOn_45 : decode cX12_goesOn 45 = .ok (.iaload, 1) := by decide +kernel
theorem dX12_goesOn_46 : decode cX12_goesOn 46 = .ok (.ldc 205, 2) := by decide +kernel
theorem dX12_goesOn_48 : decode cX12_goesOn 48 = .ok (.if_icmp .ne 6, 3) := by decide +kernel
theorem dX12_goesOn_51 : decode cX12_goesOn 51 = .ok (.goto 48, 3) := by decide +kernel
theorem dX12_goesOn_54 : decode cX12_goesOn 54 = .ok (.bipush 10, 2) := by decide +kernel
theorem dX12_goesOn_56 : decode cX12_goesOn 56 = .ok (.iload_n 1, 1) := by decide +kernel
theorem dX12_goesOn_57 : decode cX12_goesOn 57 = .ok (.iconst 1, 1) := by decide +kernel
theorem dX12_goesOn_58 : decode cX12_goesOn 58 = .ok (.iload 4, 2) := by decide +kernel
theorem dX12_goesOn_60 : decode cX12_goesOn 60 = .ok (.ishl, 1) := by decide +kernel
theorem dX12_goesOn_61 : decode cX12_goesOn 61 = .ok (.ior, 1) := by decide +kernel
theorem dX12_goesOn_62 : decode cX12_goesOn 62 = .ok (.imul, 1) := by decide +kernel
theorem dX12_goesOn_63 : decode cX12_goesOn 63 = .ok (.iload 4, 2) := by decide +kernel
theorem dX12_goesOn_65 : decode cX12_goesOn 65 = .ok (.iadd, 1) := by decide +kernel
theorem dX12_goesOn_66 : decode cX12_goesOn 66 = .ok (.istore 5, 2) := by decide +kernel
theorem dX12_goesOn_68 : decode cX12_goesOn 68 = .ok (.aload_n 0, 1) := by decide +kernel
theorem dX12_goesOn_69 : decode cX12_goesOn 69 = .ok (.getfield 69, 3) := by decide +kernel
theorem dX12_goesOn_72 : decode cX12_goesOn 72 = .ok (.iload 5, 2) := by decide +kernel
theorem dX12_goesOn_74 : decode cX12_goesOn 74 = .ok (.aload_n 0, 1) := by decide +kernel
theorem dX12_goesOn_75 : decode cX12_goesOn 75 = .ok (.getfield 69, 3) := by decide +kernel
theorem dX12_goesOn_78 : decode cX12_goesOn 78 = .ok (.iload 5, 2) := by decide +kernel
theorem dX12_goesOn_80 : decode cX12_goesOn 80 = .ok (.iaload, 1) := by decide +kernel
theorem dX12_goesOn_81 : decode cX12_goesOn 81 = .ok (.aload_n 0, 1) := by decide +kernel
theorem dX12_goesOn_82 : decode cX12_goesOn 82 = .ok (.getfield 60, 3) := by decide +kernel
theorem dX12_goesOn_85 : decode cX12_goesOn 85 = .ok (.iload 4, 2) := by decide +kernel
theorem dX12_goesOn_87 : decode cX12_goesOn 87 = .ok (.iaload, 1) := by decide +kernel
theorem dX12_goesOn_88 : decode cX12_goesOn 88 = .ok (.aload_n 0, 1) := by decide +kernel
theorem dX12_goesOn_89 : decode cX12_goesOn 89 = .ok (.iload 4, 2) := by decide +kernel
theorem dX12_goesOn_91 : decode cX12_goesOn 91 = .ok (.invokevirtual 245, 3) := by decide +kernel
theorem dX12_goesOn_94 : decode cX12_goesOn 94 = .ok (.iadd, 1) := by decide +kernel
theorem dX12_goesOn_95 : decode cX12_goesOn 95 = .ok (.invokestatic 209, 3) := by decide +kernel
theorem dX12_goesOn_98 : decode cX12_goesOn 98 = .ok (.iastore, 1) := by decide +kernel
theorem dX12_goesOn_99 : decode cX12_goesOn 99 = .ok (.iinc 4 1, 3) := by decide +kernel
theorem dX12_goesOn_102 : decode cX12_goesOn 102 = .ok (.goto (-83), 3) := by decide +kernel
theorem dX12_goesOn_105 : decode cX12_goesOn 105 = .ok (.return_, 1) := by decide +kernel
abbrev LX12_goesOn_19 (l1 l2 l3 l4 : Int32) (I : MI) (Q : MI → Prop) : Prop := WP mX12_goesOn 286 Rf0 19 [some (.ref 261), some (.int l1), some (.int l2), some (.int l3), some (.int l4), none] [] I (qv Q)
abbrev LX12_goesOn_99 (l1 l2 l3 l4 : Int32) (I : MI) (Q : MI → Prop) : Prop := WP mX12_goesOn 286 Rf0 99 [some (.ref 261), some (.int l1), some (.int l2), some (.int l3), some (.int l4), none] [] I (qv Q)
set_option maxRecDepth 20000 in
theorem rX12_goesOn_19 {l1 l2 l3 l4 : Int32} {I : MI} {Q : MI → Prop} (H : ((10 ≤ l4 → (Q I)) ∧ (¬ 10 ≤ l4 → ((((l3 &&& (l1 ^^^ ((-1) : Int32))) &&& ((1 : Int32) <<< (l4 &&& 31))) = 0 → (LX12_goesOn_99 l1 l2 l3 l4 I Q)) ∧ (¬ ((l3 &&& (l1 ^^^ ((-1) : Int32))) &&& ((1 : Int32) <<< (l4 &&& 31))) = 0 → (vp_in l4 10 ∧ (¬ (I 278 l4.toNatClampNeg) = 1000000000 → (vp_in ((10 * (l1 ||| ((1 : Int32) <<< (l4 &&& 31)))) + l4) 10240 ∧ vp_in l4 10 ∧ Wi mX12_stayAt [.ref 261, .int l4] I (fun r2 I1 => (∀ x3 : Int32, x3 = (if ((I 278 l4.toNatClampNeg) + r2) < (I 281 ((10 * (l1 ||| ((1 : Int32) <<< (l4 &&& 31)))) + l4).toNatClampNeg) then ((I 278 l4.toNatClampNeg) + r2) else (I 281 ((10 * (l1 ||| ((1 : Int32) <<< (l4 &&& 31)))) + l4).toNatClampNeg)) → vp_in ((10 * (l1 ||| ((1 : Int32) <<< (l4 &&& 31)))) + l4) 10240 ∧ ∀ I4 : MI, I4 = up2 I1 281 ((10 * (l1 ||| ((1 : Int32) <<< (l4 &&& 31)))) + l4).toNatClampNeg x3 → LX12_goesOn_99 l1 l2 l3 l4 I4 Q)))) ∧ ((I 278 l4.toNatClampNeg) = 1000000000 → (LX12_goesOn_99 l1 l2 l3 l4 I Q)))))))) : LX12_goesOn_19 l1 l2 l3 l4 I Q := by
  show WP mX12_goesOn 286 Rf0 19 [some (.ref 261), some (.int l1), some (.int l2), some (.int l3), some (.int l4), none] [] I (qv Q)
  refine w_iload dX12_goesOn_19 rfl ?_
  refine w_bipush (v := 10) dX12_goesOn_21 (by decide) ?_
  refine w_icmp_ge (t := 105) dX12_goesOn_23 (by decide) (fun h => ?_) (fun h => ?_)
  · replace H := H.1 h
    exact w_vret dX12_goesOn_105 rfl ⟨rfl, H⟩
  · replace H := H.2 h
    refine w_iload_n dX12_goesOn_26 rfl rfl ?_
    refine w_iload_n dX12_goesOn_27 rfl rfl ?_
    refine w_iconst (v := (-1)) dX12_goesOn_28 (by decide) ?_
    refine w_ixor dX12_goesOn_29 ?_
    refine w_iand dX12_goesOn_30 ?_
    refine w_iconst (v := 1) dX12_goesOn_31 (by decide) ?_
    refine w_iload dX12_goesOn_32 rfl ?_
    refine w_ishl dX12_goesOn_34 ?_
    refine w_iand dX12_goesOn_35 ?_
    refine w_if_eq (t := 99) dX12_goesOn_36 (by decide) (fun h => ?_) (fun h => ?_)
    · replace H := H.1 h
      skip
      exact H
    · replace H := H.2 h
      refine w_aload_n dX12_goesOn_39 rfl rfl ?_
      refine w_getR dX12_goesOn_40 fl_12_60 okC12 kd_261 (by decide) (by decide) rfl rf_261_27 ?_
      refine w_iload dX12_goesOn_43 rfl ?_
      refine w_iald dX12_goesOn_45 kd_278 (by decide) H.1 ?_
      replace H := H.2
      refine w_ldc (v := 1000000000) dX12_goesOn_46 kl_12_205 ?_
      refine w_icmp_ne (t := 54) dX12_goesOn_48 (by decide) (fun h => ?_) (fun h => ?_)
      · replace H := H.1 h
        refine w_bipush (v := 10) dX12_goesOn_54 (by decide) ?_
        refine w_iload_n dX12_goesOn_56 rfl rfl ?_
        refine w_iconst (v := 1) dX12_goesOn_57 (by decide) ?_
        refine w_iload dX12_goesOn_58 rfl ?_
        refine w_ishl dX12_goesOn_60 ?_
        refine w_ior dX12_goesOn_61 ?_
        refine w_imul dX12_goesOn_62 ?_
        refine w_iload dX12_goesOn_63 rfl ?_
        refine w_iadd dX12_goesOn_65 ?_
        refine w_istore (ls' := [some (.ref 261), some (.int l1), some (.int l2), some (.int l3), some (.int l4), some (.int ((10 * (l1 ||| ((1 : Int32) <<< (l4 &&& 31)))) + l4))]) dX12_goesOn_66 (by decide) rfl rfl ?_
        refine w_aload_n dX12_goesOn_68 rfl rfl ?_
        refine w_getR dX12_goesOn_69 fl_12_69 okC12 kd_261 (by decide) (by decide) rfl rf_261_31 ?_
        refine w_iload dX12_goesOn_72 rfl ?_
        refine w_aload_n dX12_goesOn_74 rfl rfl ?_
        refine w_getR dX12_goesOn_75 fl_12_69 okC12 kd_261 (by decide) (by decide) rfl rf_261_31 ?_
        refine w_iload dX12_goesOn_78 rfl ?_
        refine w_iald dX12_goesOn_80 kd_281 (by decide) H.1 ?_
        replace H := H.2
        refine w_aload_n dX12_goesOn_81 rfl rfl ?_
        refine w_getR dX12_goesOn_82 fl_12_60 okC12 kd_261 (by decide) (by decide) rfl rf_261_27 ?_
        refine w_iload dX12_goesOn_85 rfl ?_
        refine w_iald dX12_goesOn_87 kd_278 (by decide) H.1 ?_
        replace H := H.2
        refine w_aload_n dX12_goesOn_88 rfl rfl ?_
        refine w_iload dX12_goesOn_89 rfl ?_
        refine w_callV (st := [.int (I 278 l4.toNatClampNeg), .int (I 281 ((10 * (l1 ||| ((1 : Int32) <<< (l4 &&& 31)))) + l4).toNatClampNeg), .int ((10 * (l1 ||| ((1 : Int32) <<< (l4 &&& 31)))) + l4), .ref 281]) (As := [.int l4]) dX12_goesOn_91 ml_12_245 okX12_stayAt kd_261 (by decide) rfl rfl rfl (Nat.le_of_ble_eq_true rfl) (by decide) (Nat.le_of_ble_eq_true rfl) (wc_i H (fun r2 I1 H => ?_))
        refine w_iadd dX12_goesOn_94 ?_
        refine w_min dX12_goesOn_95 ml_12_209 minS maI minC (by decide) (Nat.le_of_ble_eq_true rfl) ?_
        refine w_top fun x3 hx => ?_
        replace H := H x3 hx
        refine w_iast dX12_goesOn_98 kd_281 (by decide) H.1 (w_up fun I4 hI => ?_)
        replace H := H.2 I4 hI
        refine w_less (ls' := [some (.ref 261), some (.int l1), some (.int l2), some (.int l3), some (.int l4), none]) (by simp [lsub]) ?_
        exact H
      · replace H := H.2 h
        refine w_goto (t := 99) dX12_goesOn_51 (by decide) ?_
        skip
        exact H
set_option maxRecDepth 20000 in
theorem rX12_goesOn_99 {l1 l2 l3 l4 : Int32} {I : MI} {Q : MI → Prop} (H : (LX12_goesOn_19 l1 l2 l3 (l4 + 1) I Q)) : LX12_goesOn_99 l1 l2 l3 l4 I Q := by
  show WP mX12_goesOn 286 Rf0 99 [some (.ref 261), some (.int l1), some (.int l2), some (.int l3), some (.int l4), none] [] I (qv Q)
  refine w_iinc (v := l4 + 1) (ls' := [some (.ref 261), some (.int l1), some (.int l2), some (.int l3), some (.int (l4 + 1)), none]) dX12_goesOn_99 rfl rfl (by decide) rfl rfl ?_
  refine w_goto (t := 19) dX12_goesOn_102 (by decide) ?_
  skip
  exact H
set_option maxRecDepth 20000 in
theorem rX12_goesOn {a1 a2 a3 : Int32} {I : MI} {Q : MI → Prop} (H : (vp_in ((10 * a1) + a2) 10240 ∧ Wv mX12_layArrivals [.ref 261, .int a2, .int (I 281 ((10 * a1) + a2).toNatClampNeg)] I (fun I1 => (LX12_goesOn_19 a1 a2 a3 0 I1 Q)))) : Wv mX12_goesOn [.ref 261, .int a1, .int a2, .int a3] I Q := by
  show WP mX12_goesOn 286 Rf0 0 [some (.ref 261), some (.int a1), some (.int a2), some (.int a3), none, none] [] I (qv Q)
  refine w_aload_n dX12_goesOn_0 rfl rfl ?_
  refine w_iload_n dX12_goesOn_1 rfl rfl ?_
  refine w_aload_n dX12_goesOn_2 rfl rfl ?_
  refine w_getR dX12_goesOn_3 fl_12_69 okC12 kd_261 (by decide) (by decide) rfl rf_261_31 ?_
  refine w_bipush (v := 10) dX12_goesOn_6 (by decide) ?_
  refine w_iload_n dX12_goesOn_8 rfl rfl ?_
  refine w_imul dX12_goesOn_9 ?_
  refine w_iload_n dX12_goesOn_10 rfl rfl ?_
  refine w_iadd dX12_goesOn_11 ?_
  refine w_iald dX12_goesOn_12 kd_281 (by decide) H.1 ?_
  replace H := H.2
  refine w_callV (st := []) (As := [.int a2, .int (I 281 ((10 * a1) + a2).toNatClampNeg)]) dX12_goesOn_13 ml_12_214 okX12_layArrivals kd_261 (by decide) rfl rfl rfl (Nat.le_of_ble_eq_true rfl) (by decide) (Nat.le_of_ble_eq_true rfl) (wc_v H (fun I1 H => ?_))
  refine w_iconst (v := 0) dX12_goesOn_16 (by decide) ?_
  refine w_istore (ls' := [some (.ref 261), some (.int a1), some (.int a2), some (.int a3), some (.int 0), none]) dX12_goesOn_17 (by decide) rfl rfl ?_
  skip
  exact H
theorem dX12_layFastest_0 : decode cX12_layFastest 0 = .ok (.aload_n 0, 1) := by decide +kernel
theorem dX12_layFastest_1 : decode cX12_layFastest 1 = .ok (.invokevirtual 233, 3) := by decide +kernel
theorem dX12_layFastest_4 : decode cX12_layFastest 4 = .ok (.aload_n 0, 1) := by decide +kernel
theorem dX12_layFastest_5 : decode cX12_layFastest 5 = .ok (.getfield 13, 3) := by decide +kernel
theorem dX12_layFastest_8 : decode cX12_layFastest 8 = .ok (.iconst 1, 1) := by decide +kernel
theorem dX12_layFastest_9 : decode cX12_layFastest 9 = .ok (.iaload, 1) := by decide +kernel
theorem dX12_layFastest_10 : decode cX12_layFastest 10 = .ok (.if_icmp .le 5, 3) := by decide +kernel
theorem dX12_layFastest_13 : decode cX12_layFastest 13 = .ok (.iconst 0, 1) := by decide +kernel
theorem dX12_layFastest_14 : decode cX12_layFastest 14 = .ok (.ireturn, 1) := by decide +kernel
theorem dX12_layFastest_15 : decode cX12_layFastest 15 = .ok (.aload_n 0, 1) := by decide +kernel
theorem dX12_layFastest_16 : decode cX12_layFastest 16 = .ok (.invokevirtual 236, 3) := by decide +kernel
theorem dX12_layFastest_19 : decode cX12_layFastest 19 = .ok (.istore_n 1, 1) := by decide +kernel
theorem dX12_layFastest_20 : decode cX12_layFastest 20 = .ok (.iconst 0, 1) := by decide +kernel
theorem dX12_layFastest_21 : decode cX12_layFastest 21 = .ok (.istore_n 2, 1) := by decide +kernel
theorem dX12_layFastest_22 : decode cX12_layFastest 22 = .ok (.aload_n 0, 1) := by decide +kernel
theorem dX12_layFastest_23 : decode cX12_layFastest 23 = .ok (.getfield 13, 3) := by decide +kernel
theorem dX12_layFastest_26 : decode cX12_layFastest 26 = .ok (.iconst 2, 1) := by decide +kernel
theorem dX12_layFastest_27 : decode cX12_layFastest 27 = .ok (.iaload, 1) := by decide +kernel
theorem dX12_layFastest_28 : decode cX12_layFastest 28 = .ok (.istore_n 3, 1) := by decide +kernel
theorem dX12_layFastest_29 : decode cX12_layFastest 29 = .ok (.aload_n 0, 1) := by decide +kernel
theorem dX12_layFastest_30 : decode cX12_layFastest 30 = .ok (.aload_n 0, 1) := by decide +kernel
theorem dX12_layFastest_31 : decode cX12_layFastest 31 = .ok (.iload_n 2, 1) := by decide +kernel
theorem dX12_layFastest_32 : decode cX12_layFastest 32 = .ok (.iload_n 3, 1) := by decide +kernel
theorem dX12_layFastest_33 : decode cX12_layFastest 33 = .ok (.iload_n 1, 1) := by decide +kernel
theorem dX12_layFastest_34 : decode cX12_layFastest 34 = .ok (.invokevirtual 252, 3) := by decide +kernel
theorem dX12_layFastest_37 : decode cX12_layFastest 37 = .ok (.putfield 255, 3) := by decide +kernel
theorem dX12_layFastest_40 : decode cX12_layFastest 40 = .ok (.aload_n 0, 1) := by decide +kernel
theorem dX12_layFastest_41 : decode cX12_layFastest 41 = .ok (.getfield 255, 3) := by decide +kernel
theorem dX12_layFastest_44 : decode cX12_layFastest 44 = .ok (.ldc 205, 2) := by decide +kernel
theorem dX12_layFastest_46 : decode cX12_layFastest 46 = .ok (.if_icmp .ne 5, 3) := by decide +kernel
theorem dX12_layFastest_49 : decode cX12_layFastest 49 = .ok (.iconst 0, 1) := by decide +kernel
theorem dX12_layFastest_50 : decode cX12_layFastest 50 = .ok (.ireturn, 1) := by decide +kernel
theorem dX12_layFastest_51 : decode cX12_layFastest 51 = .ok (.aload_n 0, 1) := by decide +kernel
theorem dX12_layFastest_52 : decode cX12_layFastest 52 = .ok (.iconst 0, 1) := by decide +kernel
theorem dX12_layFastest_53 : decode cX12_layFastest 53 = .ok (.putfield 242, 3) := by decide +kernel
theorem dX12_layFastest_56 : decode cX12_layFastest 56 = .ok (.iload_n 1, 1) := by decide +kernel
theorem dX12_layFastest_57 : decode cX12_layFastest 57 = .ok (.ifCond .eq 141, 3) := by decide +kernel
theorem dX12_layFastest_60 : decode cX12_layFastest 60 = .ok (.iconst 0, 1) := by decide +kernel
theorem dX12_layFastest_61 : decode cX12_layFastest 61 = .ok (.istore 4, 2) := by decide +kernel
theorem dX12_layFastest_63 : decode cX12_layFastest 63 = .ok (.iconst 0, 1) := by decide +kernel
theorem dX12_layFastest_64 : decode cX12_layFastest 64 = .ok (.istore 5, 2) := by decide +kernel
theorem dX12_layFastest_66 : decode cX12_layFastest 66 = .ok (.iload 5, 2) := by decide +kernel
theorem dX12_layFastest_68 : decode cX12_layFastest 68 = .ok (.ifCond .ne 78, 3) := by decide +kernel
theorem dX12_layFastest_71 : decode cX12_layFastest 71 = .ok (.iload_n 1, 1) := by decide +kernel
theorem dX12_layFastest_72 : decode cX12_layFastest 72 = .ok (.iload 4, 2) := by decide +kernel
theorem dX12_layFastest_74 : decode cX12_layFastest 74 = .ok (.ishr, 1) := by decide +kernel
theorem dX12_layFastest_75 : decode cX12_layFastest 75 = .ok (.iconst 1, 1) := by decide +kernel
theorem dX12_layFastest_76 : decode cX12_layFastest 76 = .ok (.iand, 1) := by decide +kernel
theorem dX12_layFastest_77 : decode cX12_layFastest 77 = .ok (.iconst 1, 1) := by decide +kernel
theorem dX12_layFastest_78 : decode cX12_layFastest 78 = .ok (.if_icmp .ne 57, 3) := by decide +kernel
theorem dX12_layFastest_81 : decode cX12_layFastest 81 = .ok (.aload_n 0, 1) := by decide +kernel
theorem dX12_layFastest_82 : decode cX12_layFastest 82 = .ok (.iload_n 2, 1) := by decide +kernel
theorem dX12_layFastest_83 : decode cX12_layFastest 83 = .ok (.iload 4, 2) := by decide +kernel
theorem dX12_layFastest_85 : decode cX12_layFastest 85 = .ok (.iload_n 3, 1) := by decide +kernel
theorem dX12_layFastest_86 : decode cX12_layFastest 86 = .ok (.invokevirtual 226, 3) := by decide +kernel
theorem dX12_layFastest_89 : decode cX12_layFastest 89 = .ok (.istore 6, 2) := by decide +kernel
theorem dX12_layFastest_91 : decode cX12_layFastest 91 = .ok (.iload 6, 2) := by decide +kernel
theorem dX12_layFastest_93 : decode cX12_layFastest 93 = .ok (.ldc 205, 2) := by decide +kernel
theorem dX12_layFastest_95 : decode cX12_layFastest 95 = .ok (.if_icmp .ge 37, 3) := by decide +kernel
theorem dX12_layFastest_98 : decode cX12_layFastest 98 = .ok (.aload_n 0, 1) := by decide +kernel
theorem dX12_layFastest_99 : decode cX12_layFastest 99 = .ok (.iload 4, 2) := by decide +kernel
theorem dX12_layFastest_101 : decode cX12_layFastest 101 = .ok (.iload 6, 2) := by decide +kernel
theorem dX12_layFastest_103 : decode cX12_layFastest 103 = .ok (.aload_n 0, 1) := by decide +kernel
theorem dX12_layFastest_104 : decode cX12_layFastest 104 = .ok (.iload 4, 2) := by decide +kernel
theorem dX12_layFastest_106 : decode cX12_layFastest 106 = .ok (.invokevirtual 245, 3) := by decide +kernel
theorem dX12_layFastest_109 : decode cX12_layFastest 109 = .ok (.iadd, 1) := by decide +kernel
theorem dX12_layFastest_110 : decode cX12_layFastest 110 = .ok (.iload_n 1, 1) := by decide +kernel
theorem dX12_layFastest_111 : decode cX12_layFastest 111 = .ok (.iconst 1, 1) := by decide +kernel
theorem dX12_layFastest_112 : decode cX12_layFastest 112 = .ok (.iload 4, 2) := by decide +kernel
theorem dX12_layFastest_114 : decode cX12_layFastest 114 = .ok (.ishl, 1) := by decide +kernel
theorem dX12_layFastest_115 : decode cX12_layFastest 115 = .ok (.iconst (-1), 1) := by decide +kernel
theorem dX12_layFastest_116 : decode cX12_layFastest 116 = .ok (.ixor, 1) := by decide +kernel
theorem dX12_layFastest_117 : decode cX12_layFastest 117 = .ok (.iand, 1) := by decide +kernel
theorem dX12_layFastest_118 : decode cX12_layFastest 118 = .ok (.invokevirtual 252, 3) := by decide +kernel
theorem dX12_layFastest_121 : decode cX12_layFastest 121 = .ok (.aload_n 0, 1) := by decide +kernel
theorem dX12_layFastest_122 : decode cX12_layFastest 122 = .ok (.getfield 255, 3) := by decide +kernel
theorem dX12_layFastest_125 : decode cX12_layFastest 125 = .ok (.if_icmp .ne 7, 3) := by decide +kernel
theorem dX12_layFastest_128 : decode cX12_layFastest 128 = .ok (.iconst 1, 1) := by decide +kernel
theorem dX12_layFastest_129 : decode cX12_layFastest 129 = .ok (.goto 4, 3) := by decide +kernel
theorem dX12_layFastest_132 : decode cX12_layFastest 132 = .ok (.iconst 0, 1) := by decide +kernel
theorem dX12_layFastest_133 : decode cX12_layFastest 133 = .ok (.istore 5, 2) := by decide +kernel
theorem dX12_layFastest_135 : decode cX12_layFastest 135 = .ok (.iload 5, 2) := by decide +kernel
theorem dX12_layFastest_137 : decode cX12_layFastest 137 = .ok (.ifCond .ne (-71), 3) := by decide +kernel
theorem dX12_layFastest_140 : decode cX12_layFastest 140 = .ok (.iinc 4 1, 3) := by decide +kernel
theorem dX12_layFastest_143 : decode cX12_layFastest 143 = .ok (.goto (-77), 3) := by decide +kernel
theorem dX12_layFastest_146 : decode cX12_layFastest 146 = .ok (.aload_n 0, 1) := by decide +kernel
theorem dX12_layFastest_147 : decode cX12_layFastest 147 = .ok (.iload_n 2, 1) := by decide +kernel
theorem dX12_layFastest_148 : decode cX12_layFastest 148 = .ok (.iload 4, 2) := by decide +kernel
theorem dX12_layFastest_150 : decode cX12_layFastest 150 = .ok (.iload_n 3, 1) := by decide +kernel
theorem dX12_layFastest_151 : decode cX12_layFastest 151 = .ok (.invokevirtual 226, 3) := by decide +kernel
theorem dX12_layFastest_154 : decode cX12_layFastest 154 = .ok (.aload_n 0, 1) := by decide +kernel
theorem dX12_layFastest_155 : decode cX12_layFastest 155 = .ok (.iload 4, 2) := by decide +kernel
theorem dX12_layFastest_157 : decode cX12_layFastest 157 = .ok (.invokevirtual 245, 3) := by decide +kernel
theorem dX12_layFastest_160 : decode cX12_layFastest 160 = .ok (.iadd, 1) := by decide +kernel
theorem dX12_layFastest_161 : decode cX12_layFastest 161 = .ok (.istore_n 3, 1) := by decide +kernel
theorem dX12_layFastest_162 : decode cX12_layFastest 162 = .ok (.iload 4, 2) := by decide +kernel
theorem dX12_layFastest_164 : decode cX12_layFastest 164 = .ok (.istore_n 2, 1) := by decide +kernel
theorem dX12_layFastest_165 : decode cX12_layFastest 165 = .ok (.iload_n 1, 1) := by decide +kernel
theorem dX12_layFastest_166 : decode cX12_layFastest 166 = .ok (.iconst 1, 1) := by decide +kernel
theorem dX12_layFastest_167 : decode cX12_layFastest 167 = .ok (.iload 4, 2) := by decide +kernel
theorem dX12_layFastest_169 : decode cX12_layFastest 169 = .ok (.ishl, 1) := by decide +kernel
theorem dX12_layFastest_170 : decode cX12_layFastest 170 = .ok (.iconst (-1), 1) := by decide +kernel
theorem dX12_layFastest_171 : decode cX12_layFastest 171 = .ok (.ixor, 1) := by decide +kernel
theorem dX12_layFastest_172 : decode cX12_layFastest 172 = .ok (.iand, 1) := by decide +kernel
theorem dX12_layFastest_173 : decode cX12_layFastest 173 = .ok (.istore_n 1, 1) := by decide +kernel
theorem dX12_layFastest_174 : decode cX12_layFastest 174 = .ok (.aload_n 0, 1) := by decide +kernel
theorem dX12_layFastest_175 : decode cX12_layFastest 175 = .ok (.getfield 66, 3) := by decide +kernel
theorem dX12_layFastest_178 : decode cX12_layFastest 178 = .ok (.aload_n 0, 1) := by decide +kernel
theorem dX12_layFastest_179 : decode cX12_layFastest 179 = .ok (.getfield 242, 3) := by decide +kernel
theorem dX12_layFastest_182 : decode cX12_layFastest 182 = .ok (.iload 4, 2) := by decide +kernel
theorem dX12_layFastest_184 : decode cX12_layFastest 184 = .ok (.iastore, 1) := by decide +kernel
theorem dX12_layFastest_185 : decode cX12_layFastest 185 = .ok (.aload_n 0, 1) := by decide +kernel
theorem dX12_layFastest_186 : decode cX12_layFastest 186 = .ok (.dup, 1) := by decide +kernel
theorem dX12_layFastest_187 : decode cX12_layFastest 187 = .ok (.getfield 242, 3) := by decide +kernel
theorem dX12_layFastest_190 : decode cX12_layFastest 190 = .ok (.iconst 1, 1) := by decide +kernel
theorem dX12_layFastest_191 : decode cX12_layFastest 191 = .ok (.iadd, 1) := by decide +kernel
theorem dX12_layFastest_192 : decode cX12_layFastest 192 = .ok (.putfield 242, 3) := by decide +kernel
theorem dX12_layFastest_195 : decode cX12_layFastest 195 = .ok (.goto (-139), 3) := by decide +kernel
theorem dX12_layFastest_198 : decode cX12_layFastest 198 = .ok (.iconst 1, 1) := by decide +kernel
theorem dX12_layFastest_199 : decode cX12_layFastest 199 = .ok (.ireturn, 1) := by decide +kernel
abbrev LX12_layFastest_56 (l1 l2 l3 : Int32) (I : MI) (Q : Int32 → MI → Prop) : Prop := WP mX12_layFastest 286 Rf0 56 [some (.ref 261), some (.int l1), some (.int l2), some (.int l3), none, none, none] [] I (qi Q)
abbrev LX12_layFastest_66 (l1 l2 l3 l4 l5 : Int32) (I : MI) (Q : Int32 → MI → Prop) : Prop := WP mX12_layFastest 286 Rf0 66 [some (.ref 261), some (.int l1), some (.int l2), some (.int l3), some (.int l4), some (.int l5), none] [] I (qi Q)
abbrev LX12_layFastest_132 (l1 l2 l3 l4 l5 l6 : Int32) (I : MI) (Q : Int32 → MI → Prop) : Prop := WP mX12_layFastest 286 Rf0 132 [some (.ref 261), some (.int l1), some (.int l2), some (.int l3), some (.int l4), some (.int l5), some (.int l6)] [] I (qi Q)
abbrev LX12_layFastest_133 (l1 l2 l3 l4 l5 l6 t0 : Int32) (I : MI) (Q : Int32 → MI → Prop) : Prop := WP mX12_layFastest 286 Rf0 133 [some (.ref 261), some (.int l1), some (.int l2), some (.int l3), some (.int l4), some (.int l5), some (.int l6)] [.int t0] I (qi Q)
abbrev LX12_layFastest_135 (l1 l2 l3 l4 l5 : Int32) (I : MI) (Q : Int32 → MI → Prop) : Prop := WP mX12_layFastest 286 Rf0 135 [some (.ref 261), some (.int l1), some (.int l2), some (.int l3), some (.int l4), some (.int l5), none] [] I (qi Q)
set_option maxRecDepth 20000 in
theorem rX12_layFastest_56 {l1 l2 l3 : Int32} {I : MI} {Q : Int32 → MI → Prop} (H : ((l1 = 0 → (Q 1 I)) ∧ (¬ l1 = 0 → (LX12_layFastest_66 l1 l2 l3 0 0 I Q)))) : LX12_layFastest_56 l1 l2 l3 I Q := by
  show WP mX12_layFastest 286 Rf0 56 [some (.ref 261), some (.int l1), some (.int l2), some (.int l3), none, none, none] [] I (qi Q)
  refine w_iload_n dX12_layFastest_56 rfl rfl ?_
  refine w_if_eq (t := 198) dX12_layFastest_57 (by decide) (fun h => ?_) (fun h => ?_)
  · replace H := H.1 h
    refine w_iconst (v := 1) dX12_layFastest_198 (by decide) ?_
    exact w_zret dX12_layFastest_199 rfl rfl ⟨_, rfl, H⟩
  · replace H := H.2 h
    refine w_iconst (v := 0) dX12_layFastest_60 (by decide) ?_
    refine w_istore (ls' := [some (.ref 261), some (.int l1), some (.int l2), some (.int l3), some (.int 0), none, none]) dX12_layFastest_61 (by decide) rfl rfl ?_
    refine w_iconst (v := 0) dX12_layFastest_63 (by decide) ?_
    refine w_istore (ls' := [some (.ref 261), some (.int l1), some (.int l2), some (.int l3), some (.int 0), some (.int 0), none]) dX12_layFastest_64 (by decide) rfl rfl ?_
    skip
    exact H
set_option maxRecDepth 20000 in
theorem rX12_layFastest_66 {l1 l2 l3 l4 l5 : Int32} {I : MI} {Q : Int32 → MI → Prop} (H : ((¬ l5 = 0 → (Wi mX12_arrivalOf [.ref 261, .int l2, .int l4, .int l3] I (fun r2 I1 => (Wi mX12_stayAt [.ref 261, .int l4] I1 (fun r4 I3 => (vp_in (I3 261 30) 10 ∧ ∀ I5 : MI, I5 = up2 I3 280 (I3 261 30).toNatClampNeg l4 → ∀ I6 : MI, I6 = up2 I5 261 30 ((I5 261 30) + 1) → LX12_layFastest_56 (l1 &&& (((1 : Int32) <<< (l4 &&& 31)) ^^^ ((-1) : Int32))) l4 (r2 + r4) I6 Q)))))) ∧ (l5 = 0 → ((¬ ((l1 >>> (l4 &&& 31)) &&& (1 : Int32)) = 1 → (LX12_layFastest_135 l1 l2 l3 l4 l5 I Q)) ∧ (((l1 >>> (l4 &&& 31)) &&& (1 : Int32)) = 1 → (Wi mX12_arrivalOf [.ref 261, .int l2, .int l4, .int l3] I (fun r2 I1 => ((1000000000 ≤ r2 → (LX12_layFastest_132 l1 l2 l3 l4 l5 r2 I1 Q)) ∧ (¬ 1000000000 ≤ r2 → (Wi mX12_stayAt [.ref 261, .int l4] I1 (fun r4 I3 => (Wi mX12_bestEnd [.ref 261, .int l4, .int (r2 + r4), .int (l1 &&& (((1 : Int32) <<< (l4 &&& 31)) ^^^ ((-1) : Int32)))] I3 (fun r6 I5 => ((¬ r6 = (I5 261 32) → (LX12_layFastest_132 l1 l2 l3 l4 l5 r2 I5 Q)) ∧ (r6 = (I5 261 32) → (LX12_layFastest_133 l1 l2 l3 l4 l5 r2 1 I5 Q)))))))))))))))) : LX12_layFastest_66 l1 l2 l3 l4 l5 I Q := by
  show WP mX12_layFastest 286 Rf0 66 [some (.ref 261), some (.int l1), some (.int l2), some (.int l3), some (.int l4), some (.int l5), none] [] I (qi Q)
  refine w_iload dX12_layFastest_66 rfl ?_
  refine w_if_ne (t := 146) dX12_layFastest_68 (by decide) (fun h => ?_) (fun h => ?_)
  · replace H := H.1 h
    refine w_aload_n dX12_layFastest_146 rfl rfl ?_
    refine w_iload_n dX12_layFastest_147 rfl rfl ?_
    refine w_iload dX12_layFastest_148 rfl ?_
    refine w_iload_n dX12_layFastest_150 rfl rfl ?_
    refine w_callV (st := []) (As := [.int l2, .int l4, .int l3]) dX12_layFastest_151 ml_12_226 okX12_arrivalOf kd_261 (by decide) rfl rfl rfl (Nat.le_of_ble_eq_true rfl) (by decide) (Nat.le_of_ble_eq_true rfl) (wc_i H (fun r2 I1 H => ?_))
    refine w_aload_n dX12_layFastest_154 rfl rfl ?_
    refine w_iload dX12_layFastest_155 rfl ?_
    refine w_callV (st := [.int r2]) (As := [.int l4]) dX12_layFastest_157 ml_12_245 okX12_stayAt kd_261 (by decide) rfl rfl rfl (Nat.le_of_ble_eq_true rfl) (by decide) (Nat.le_of_ble_eq_true rfl) (wc_i H (fun r4 I3 H => ?_))
    refine w_iadd dX12_layFastest_160 ?_
    refine w_istore_n (ls' := [some (.ref 261), some (.int l1), some (.int l2), some (.int (r2 + r4)), some (.int l4), some (.int l5), none]) dX12_layFastest_161 rfl (by decide) rfl rfl ?_
    refine w_iload dX12_layFastest_162 rfl ?_
    refine w_istore_n (ls' := [some (.ref 261), some (.int l1), some (.int l4), some (.int (r2 + r4)), some (.int l4), some (.int l5), none]) dX12_layFastest_164 rfl (by decide) rfl rfl ?_
    refine w_iload_n dX12_layFastest_165 rfl rfl ?_
    refine w_iconst (v := 1) dX12_layFastest_166 (by decide) ?_
    refine w_iload dX12_layFastest_167 rfl ?_
    refine w_ishl dX12_layFastest_169 ?_
    refine w_iconst (v := (-1)) dX12_layFastest_170 (by decide) ?_
    refine w_ixor dX12_layFastest_171 ?_
    refine w_iand dX12_layFastest_172 ?_
    refine w_istore_n (ls' := [some (.ref 261), some (.int (l1 &&& (((1 : Int32) <<< (l4 &&& 31)) ^^^ ((-1) : Int32)))), some (.int l4), some (.int (r2 + r4)), some (.int l4), some (.int l5), none]) dX12_layFastest_173 rfl (by decide) rfl rfl ?_
    refine w_aload_n dX12_layFastest_174 rfl rfl ?_
    refine w_getR dX12_layFastest_175 fl_12_66 okC12 kd_261 (by decide) (by decide) rfl rf_261_29 ?_
    refine w_aload_n dX12_layFastest_178 rfl rfl ?_
    refine w_getI dX12_layFastest_179 fl_12_242 okC12 kd_261 (by decide) (by decide) rfl ?_
    refine w_iload dX12_layFastest_182 rfl ?_
    refine w_iast dX12_layFastest_184 kd_280 (by decide) H.1 (w_up fun I5 hI => ?_)
    replace H := H.2 I5 hI
    refine w_aload_n dX12_layFastest_185 rfl rfl ?_
    refine w_dup dX12_layFastest_186 rfl ?_
    refine w_getI dX12_layFastest_187 fl_12_242 okC12 kd_261 (by decide) (by decide) rfl ?_
    refine w_iconst (v := 1) dX12_layFastest_190 (by decide) ?_
    refine w_iadd dX12_layFastest_191 ?_
    refine w_putI dX12_layFastest_192 fl_12_242 okC12 kd_261 (by decide) (by decide) rfl rfl rfl (w_up fun I6 hI => ?_)
    replace H := H I6 hI
    refine w_goto (t := 56) dX12_layFastest_195 (by decide) ?_
    refine w_less (ls' := [some (.ref 261), some (.int (l1 &&& (((1 : Int32) <<< (l4 &&& 31)) ^^^ ((-1) : Int32)))), some (.int l4), some (.int (r2 + r4)), none, none, none]) (by simp [lsub]) ?_
    exact H
  · replace H := H.2 h
    refine w_iload_n dX12_layFastest_71 rfl rfl ?_
    refine w_iload dX12_layFastest_72 rfl ?_
    refine w_ishr dX12_layFastest_74 ?_
    refine w_iconst (v := 1) dX12_layFastest_75 (by decide) ?_
    refine w_iand dX12_layFastest_76 ?_
    refine w_iconst (v := 1) dX12_layFastest_77 (by decide) ?_
    refine w_icmp_ne (t := 135) dX12_layFastest_78 (by decide) (fun h => ?_) (fun h => ?_)
    · replace H := H.1 h
      skip
      exact H
    · replace H := H.2 h
      refine w_aload_n dX12_layFastest_81 rfl rfl ?_
      refine w_iload_n dX12_layFastest_82 rfl rfl ?_
      refine w_iload dX12_layFastest_83 rfl ?_
      refine w_iload_n dX12_layFastest_85 rfl rfl ?_
      refine w_callV (st := []) (As := [.int l2, .int l4, .int l3]) dX12_layFastest_86 ml_12_226 okX12_arrivalOf kd_261 (by decide) rfl rfl rfl (Nat.le_of_ble_eq_true rfl) (by decide) (Nat.le_of_ble_eq_true rfl) (wc_i H (fun r2 I1 H => ?_))
      refine w_istore (ls' := [some (.ref 261), some (.int l1), some (.int l2), some (.int l3), some (.int l4), some (.int l5), some (.int r2)]) dX12_layFastest_89 (by decide) rfl rfl ?_
      refine w_iload dX12_layFastest_91 rfl ?_
      refine w_ldc (v := 1000000000) dX12_layFastest_93 kl_12_205 ?_
      refine w_icmp_ge (t := 132) dX12_layFastest_95 (by decide) (fun h => ?_) (fun h => ?_)
      · replace H := H.1 h
        skip
        exact H
      · replace H := H.2 h
        refine w_aload_n dX12_layFastest_98 rfl rfl ?_
        refine w_iload dX12_layFastest_99 rfl ?_
        refine w_iload dX12_layFastest_101 rfl ?_
        refine w_aload_n dX12_layFastest_103 rfl rfl ?_
        refine w_iload dX12_layFastest_104 rfl ?_
        refine w_callV (st := [.int r2, .int l4, .ref 261]) (As := [.int l4]) dX12_layFastest_106 ml_12_245 okX12_stayAt kd_261 (by decide) rfl rfl rfl (Nat.le_of_ble_eq_true rfl) (by decide) (Nat.le_of_ble_eq_true rfl) (wc_i H (fun r4 I3 H => ?_))
        refine w_iadd dX12_layFastest_109 ?_
        refine w_iload_n dX12_layFastest_110 rfl rfl ?_
        refine w_iconst (v := 1) dX12_layFastest_111 (by decide) ?_
        refine w_iload dX12_layFastest_112 rfl ?_
        refine w_ishl dX12_layFastest_114 ?_
        refine w_iconst (v := (-1)) dX12_layFastest_115 (by decide) ?_
        refine w_ixor dX12_layFastest_116 ?_
        refine w_iand dX12_layFastest_117 ?_
        refine w_callV (st := []) (As := [.int l4, .int (r2 + r4), .int (l1 &&& (((1 : Int32) <<< (l4 &&& 31)) ^^^ ((-1) : Int32)))]) dX12_layFastest_118 ml_12_252 okX12_bestEnd kd_261 (by decide) rfl rfl rfl (Nat.le_of_ble_eq_true rfl) (by decide) (Nat.le_of_ble_eq_true rfl) (wc_i H (fun r6 I5 H => ?_))
        refine w_aload_n dX12_layFastest_121 rfl rfl ?_
        refine w_getI dX12_layFastest_122 fl_12_255 okC12 kd_261 (by decide) (by decide) rfl ?_
        refine w_icmp_ne (t := 132) dX12_layFastest_125 (by decide) (fun h => ?_) (fun h => ?_)
        · replace H := H.1 h
          skip
          exact H
        · replace H := H.2 h
          refine w_iconst (v := 1) dX12_layFastest_128 (by decide) ?_
          refine w_goto (t := 133) dX12_layFastest_129 (by decide) ?_
          skip
          exact H
set_option maxRecDepth 20000 in
theorem rX12_layFastest_132 {l1 l2 l3 l4 l5 l6 : Int32} {I : MI} {Q : Int32 → MI → Prop} (H : (LX12_layFastest_133 l1 l2 l3 l4 l5 l6 0 I Q)) : LX12_layFastest_132 l1 l2 l3 l4 l5 l6 I Q := by
  show WP mX12_layFastest 286 Rf0 132 [some (.ref 261), some (.int l1), some (.int l2), some (.int l3), some (.int l4), some (.int l5), some (.int l6)] [] I (qi Q)
  refine w_iconst (v := 0) dX12_layFastest_132 (by decide) ?_
  skip
  exact H
set_option maxRecDepth 20000 in
theorem rX12_layFastest_133 {l1 l2 l3 l4 l5 l6 t0 : Int32} {I : MI} {Q : Int32 → MI → Prop} (H : (LX12_layFastest_135 l1 l2 l3 l4 t0 I Q)) : LX12_layFastest_133 l1 l2 l3 l4 l5 l6 t0 I Q := by
  show WP mX12_layFastest 286 Rf0 133 [some (.ref 261), some (.int l1), some (.int l2), some (.int l3), some (.int l4), some (.int l5), some (.int l6)] [.int t0] I (qi Q)
  refine w_istore (ls' := [some (.ref 261), some (.int l1), some (.int l2), some (.int l3), some (.int l4), some (.int t0), some (.int l6)]) dX12_layFastest_133 (by decide) rfl rfl ?_
  refine w_less (ls' := [some (.ref 261), some (.int l1), some (.int l2), some (.int l3), some (.int l4), some (.int t0), none]) (by simp [lsub]) ?_
  exact H
set_option maxRecDepth 20000 in
theorem rX12_layFastest_135 {l1 l2 l3 l4 l5 : Int32} {I : MI} {Q : Int32 → MI → Prop} (H : ((¬ l5 = 0 → (LX12_layFastest_66 l1 l2 l3 l4 l5 I Q)) ∧ (l5 = 0 → (LX12_layFastest_66 l1 l2 l3 (l4 + 1) l5 I Q)))) : LX12_layFastest_135 l1 l2 l3 l4 l5 I Q := by
  show WP mX12_layFastest 286 Rf0 135 [some (.ref 261), some (.int l1), some (.int l2), some (.int l3), some (.int l4), some (.int l5), none] [] I (qi Q)
  refine w_iload dX12_layFastest_135 rfl ?_
  refine w_if_ne (t := 66) dX12_layFastest_137 (by decide) (fun h => ?_) (fun h => ?_)
  · replace H := H.1 h
    skip
    exact H
  · replace H := H.2 h
    refine w_iinc (v := l4 + 1) (ls' := [some (.ref 261), some (.int l1), some (.int l2), some (.int l3), some (.int (l4 + 1)), some (.int l5), none]) dX12_layFastest_140 rfl rfl (by decide) rfl rfl ?_
    refine w_goto (t := 66) dX12_layFastest_143 (by decide) ?_
    skip
    exact H
set_option maxRecDepth 20000 in
theorem rX12_layFastest {I : MI} {Q : Int32 → MI → Prop} (H : (Wi mX12_totalOf [.ref 261] I (fun r2 I1 => (vp_in 1 7 ∧ (r2 ≤ (I1 263 (1 : Int32).toNatClampNeg) → (Wi mX12_stopSet [.ref 261] I1 (fun r4 I3 => (vp_in 2 7 ∧ Wi mX12_bestEnd [.ref 261, .int 0, .int (I3 263 (2 : Int32).toNatClampNeg), .int r4] I3 (fun r6 I5 => (∀ I7 : MI, I7 = up2 I5 261 32 r6 → (¬ (I7 261 32) = 1000000000 → (∀ I8 : MI, I8 = up2 I7 261 30 0 → LX12_layFastest_56 r4 0 (I3 263 (2 : Int32).toNatClampNeg) I8 Q)) ∧ ((I7 261 32) = 1000000000 → (Q 0 I7)))))))) ∧ (¬ r2 ≤ (I1 263 (1 : Int32).toNatClampNeg) → (Q 0 I1)))))) : Wi mX12_layFastest [.ref 261] I Q := by
  show WP mX12_layFastest 286 Rf0 0 [some (.ref 261), none, none, none, none, none, none] [] I (qi Q)
  refine w_aload_n dX12_layFastest_0 rfl rfl ?_
  refine w_callV (st := []) (As := []) dX12_layFastest_1 ml_12_233 okX12_totalOf kd_261 (by decide) rfl rfl rfl (Nat.le_of_ble_eq_true rfl) (by decide) (Nat.le_of_ble_eq_true rfl) (wc_i H (fun r2 I1 H => ?_))
  refine w_aload_n dX12_layFastest_4 rfl rfl ?_
  refine w_getR dX12_layFastest_5 fl_12_13 okC12 kd_261 (by decide) (by decide) rfl rf_261_10 ?_
  refine w_iconst (v := 1) dX12_layFastest_8 (by decide) ?_
  refine w_iald dX12_layFastest_9 kd_263 (by decide) H.1 ?_
  replace H := H.2
  refine w_icmp_le (t := 15) dX12_layFastest_10 (by decide) (fun h => ?_) (fun h => ?_)
  · replace H := H.1 h
    refine w_aload_n dX12_layFastest_15 rfl rfl ?_
    refine w_callV (st := []) (As := []) dX12_layFastest_16 ml_12_236 okX12_stopSet kd_261 (by decide) rfl rfl rfl (Nat.le_of_ble_eq_true rfl) (by decide) (Nat.le_of_ble_eq_true rfl) (wc_i H (fun r4 I3 H => ?_))
    refine w_istore_n (ls' := [some (.ref 261), some (.int r4), none, none, none, none, none]) dX12_layFastest_19 rfl (by decide) rfl rfl ?_
    refine w_iconst (v := 0) dX12_layFastest_20 (by decide) ?_
    refine w_istore_n (ls' := [some (.ref 261), some (.int r4), some (.int 0), none, none, none, none]) dX12_layFastest_21 rfl (by decide) rfl rfl ?_
    refine w_aload_n dX12_layFastest_22 rfl rfl ?_
    refine w_getR dX12_layFastest_23 fl_12_13 okC12 kd_261 (by decide) (by decide) rfl rf_261_10 ?_
    refine w_iconst (v := 2) dX12_layFastest_26 (by decide) ?_
    refine w_iald dX12_layFastest_27 kd_263 (by decide) H.1 ?_
    replace H := H.2
    refine w_istore_n (ls' := [some (.ref 261), some (.int r4), some (.int 0), some (.int (I3 263 (2 : Int32).toNatClampNeg)), none, none, none]) dX12_layFastest_28 rfl (by decide) rfl rfl ?_
    refine w_aload_n dX12_layFastest_29 rfl rfl ?_
    refine w_aload_n dX12_layFastest_30 rfl rfl ?_
    refine w_iload_n dX12_layFastest_31 rfl rfl ?_
    refine w_iload_n dX12_layFastest_32 rfl rfl ?_
    refine w_iload_n dX12_layFastest_33 rfl rfl ?_
    refine w_callV (st := [.ref 261]) (As := [.int 0, .int (I3 263 (2 : Int32).toNatClampNeg), .int r4]) dX12_layFastest_34 ml_12_252 okX12_bestEnd kd_261 (by decide) rfl rfl rfl (Nat.le_of_ble_eq_true rfl) (by decide) (Nat.le_of_ble_eq_true rfl) (wc_i H (fun r6 I5 H => ?_))
    refine w_putI dX12_layFastest_37 fl_12_255 okC12 kd_261 (by decide) (by decide) rfl rfl rfl (w_up fun I7 hI => ?_)
    replace H := H I7 hI
    refine w_aload_n dX12_layFastest_40 rfl rfl ?_
    refine w_getI dX12_layFastest_41 fl_12_255 okC12 kd_261 (by decide) (by decide) rfl ?_
    refine w_ldc (v := 1000000000) dX12_layFastest_44 kl_12_205 ?_
    refine w_icmp_ne (t := 51) dX12_layFastest_46 (by decide) (fun h => ?_) (fun h => ?_)
    · replace H := H.1 h
      refine w_aload_n dX12_layFastest_51 rfl rfl ?_
      refine w_iconst (v := 0) dX12_layFastest_52 (by decide) ?_
      refine w_putI dX12_layFastest_53 fl_12_242 okC12 kd_261 (by decide) (by decide) rfl rfl rfl (w_up fun I8 hI => ?_)
      replace H := H I8 hI
      skip
      exact H
    · replace H := H.2 h
      refine w_iconst (v := 0) dX12_layFastest_49 (by decide) ?_
      exact w_zret dX12_layFastest_50 rfl rfl ⟨_, rfl, H⟩
  · replace H := H.2 h
    refine w_iconst (v := 0) dX12_layFastest_13 (by decide) ?_
    exact w_zret dX12_layFastest_14 rfl rfl ⟨_, rfl, H⟩
theorem dX12_stopAt_0 : decode cX12_stopAt 0 = .ok (.iload_n 1, 1) := by decide +kernel
theorem dX12_stopAt_1 : decode cX12_stopAt 1 = .ok (.aload_n 0, 1) := by decide +kernel
theorem dX12_stopAt_2 : decode cX12_stopAt 2 = .ok (.getfield 242, 3) := by decide +kernel
theorem dX12_stopAt_5 : decode cX12_stopAt 5 = .ok (.if_icmp .ge 12, 3) := by decide +kernel
theorem dX12_stopAt_8 : decode cX12_stopAt 8 = .ok (.aload_n 0, 1) := by decide +kernel
theorem dX12_stopAt_9 : decode cX12_stopAt 9 = .ok (.getfield 66, 3) := by decide +kernel
theorem dX12_stopAt_12 : decode cX12_stopAt 12 = .ok (.iload_n 1, 1) := by decide +kernel
theorem dX12_stopAt_13 : decode cX12_stopAt 13 = .ok (.iaload, 1) := by decide +kernel
theorem dX12_stopAt_14 : decode cX12_stopAt 14 = .ok (.goto 5, 3) := by decide +kernel
theorem dX12_stopAt_17 : decode cX12_stopAt 17 = .ok (.bipush (-2), 2) := by decide +kernel
theorem dX12_stopAt_19 : decode cX12_stopAt 19 = .ok (.ireturn, 1) := by decide +kernel
set_option maxRecDepth 20000 in
theorem rX12_stopAt {a1 : Int32} {I : MI} {Q : Int32 → MI → Prop} (H : (((I 261 30) ≤ a1 → (Q (-2) I)) ∧ (¬ (I 261 30) ≤ a1 → (vp_in a1 10 ∧ Q (I 280 a1.toNatClampNeg) I)))) : Wi mX12_stopAt [.ref 261, .int a1] I Q := by
  show WP mX12_stopAt 286 Rf0 0 [some (.ref 261), some (.int a1)] [] I (qi Q)
  refine w_iload_n dX12_stopAt_0 rfl rfl ?_
  refine w_aload_n dX12_stopAt_1 rfl rfl ?_
  refine w_getI dX12_stopAt_2 fl_12_242 okC12 kd_261 (by decide) (by decide) rfl ?_
  refine w_icmp_ge (t := 17) dX12_stopAt_5 (by decide) (fun h => ?_) (fun h => ?_)
  · replace H := H.1 h
    refine w_bipush (v := (-2)) dX12_stopAt_17 (by decide) ?_
    exact w_iret dX12_stopAt_19 rfl ⟨_, rfl, H⟩
  · replace H := H.2 h
    refine w_aload_n dX12_stopAt_8 rfl rfl ?_
    refine w_getR dX12_stopAt_9 fl_12_66 okC12 kd_261 (by decide) (by decide) rfl rf_261_29 ?_
    refine w_iload_n dX12_stopAt_12 rfl rfl ?_
    refine w_iald dX12_stopAt_13 kd_280 (by decide) H.1 ?_
    replace H := H.2
    refine w_goto (t := 19) dX12_stopAt_14 (by decide) ?_
    exact w_iret dX12_stopAt_19 rfl ⟨_, rfl, H⟩
theorem dX12_horseStop_0 : decode cX12_horseStop 0 = .ok (.aload_n 0, 1) := by decide +kernel
theorem dX12_horseStop_1 : decode cX12_horseStop 1 = .ok (.iconst 0, 1) := by decide +kernel
theorem dX12_horseStop_2 : decode cX12_horseStop 2 = .ok (.putfield 87, 3) := by decide +kernel
theorem dX12_horseStop_5 : decode cX12_horseStop 5 = .ok (.iload_n 1, 1) := by decide +kernel
theorem dX12_horseStop_6 : decode cX12_horseStop 6 = .ok (.ifCond .ge 5, 3) := by decide +kernel
theorem dX12_horseStop_9 : decode cX12_horseStop 9 = .ok (.iconst (-1), 1) := by decide +kernel
theorem dX12_horseStop_10 : decode cX12_horseStop 10 = .ok (.ireturn, 1) := by decide +kernel
theorem dX12_horseStop_11 : decode cX12_horseStop 11 = .ok (.aload_n 0, 1) := by decide +kernel
theorem dX12_horseStop_12 : decode cX12_horseStop 12 = .ok (.invokevirtual 258, 3) := by decide +kernel
theorem dX12_horseStop_15 : decode cX12_horseStop 15 = .ok (.aload_n 0, 1) := by decide +kernel
theorem dX12_horseStop_16 : decode cX12_horseStop 16 = .ok (.iload_n 1, 1) := by decide +kernel
theorem dX12_horseStop_17 : decode cX12_horseStop 17 = .ok (.invokevirtual 261, 3) := by decide +kernel
theorem dX12_horseStop_20 : decode cX12_horseStop 20 = .ok (.ireturn, 1) := by decide +kernel
set_option maxRecDepth 20000 in
theorem rX12_horseStop {a1 : Int32} {I : MI} {Q : Int32 → MI → Prop} (H : (∀ I1 : MI, I1 = up2 I 261 0 0 → (0 ≤ a1 → (Wv mX12_layHorse [.ref 261] I1 (fun I2 => (Wi mX12_stopAt [.ref 261, .int a1] I2 (fun r4 I3 => (Q r4 I3)))))) ∧ (¬ 0 ≤ a1 → (Q (-1) I1)))) : Wi mX12_horseStop [.ref 261, .int a1] I Q := by
  show WP mX12_horseStop 286 Rf0 0 [some (.ref 261), some (.int a1)] [] I (qi Q)
  refine w_aload_n dX12_horseStop_0 rfl rfl ?_
  refine w_iconst (v := 0) dX12_horseStop_1 (by decide) ?_
  refine w_putI dX12_horseStop_2 fl_12_87 okC12 kd_261 (by decide) (by decide) rfl rfl rfl (w_up fun I1 hI => ?_)
  replace H := H I1 hI
  refine w_iload_n dX12_horseStop_5 rfl rfl ?_
  refine w_if_ge (t := 11) dX12_horseStop_6 (by decide) (fun h => ?_) (fun h => ?_)
  · replace H := H.1 h
    refine w_aload_n dX12_horseStop_11 rfl rfl ?_
    refine w_callV (st := []) (As := []) dX12_horseStop_12 ml_12_258 okX12_layHorse kd_261 (by decide) rfl rfl rfl (Nat.le_of_ble_eq_true rfl) (by decide) (Nat.le_of_ble_eq_true rfl) (wc_v H (fun I2 H => ?_))
    refine w_aload_n dX12_horseStop_15 rfl rfl ?_
    refine w_iload_n dX12_horseStop_16 rfl rfl ?_
    refine w_callV (st := []) (As := [.int a1]) dX12_horseStop_17 ml_12_261 okX12_stopAt kd_261 (by decide) rfl rfl rfl (Nat.le_of_ble_eq_true rfl) (by decide) (Nat.le_of_ble_eq_true rfl) (wc_i H (fun r4 I3 H => ?_))
    exact w_iret dX12_horseStop_20 rfl ⟨_, rfl, H⟩
  · replace H := H.2 h
    refine w_iconst (v := (-1)) dX12_horseStop_9 (by decide) ?_
    exact w_iret dX12_horseStop_10 rfl ⟨_, rfl, H⟩
theorem dX12_fastestFinish_0 : decode cX12_fastestFinish 0 = .ok (.aload_n 0, 1) := by decide +kernel
theorem dX12_fastestFinish_1 : decode cX12_fastestFinish 1 = .ok (.iconst 0, 1) := by decide +kernel
theorem dX12_fastestFinish_2 : decode cX12_fastestFinish 2 = .ok (.putfield 87, 3) := by decide +kernel
theorem dX12_fastestFinish_5 : decode cX12_fastestFinish 5 = .ok (.aload_n 0, 1) := by decide +kernel
theorem dX12_fastestFinish_6 : decode cX12_fastestFinish 6 = .ok (.invokevirtual 264, 3) := by decide +kernel
theorem dX12_fastestFinish_9 : decode cX12_fastestFinish 9 = .ok (.ifCond .eq 10, 3) := by decide +kernel
theorem dX12_fastestFinish_12 : decode cX12_fastestFinish 12 = .ok (.aload_n 0, 1) := by decide +kernel
theorem dX12_fastestFinish_13 : decode cX12_fastestFinish 13 = .ok (.getfield 255, 3) := by decide +kernel
theorem dX12_fastestFinish_16 : decode cX12_fastestFinish 16 = .ok (.goto 5, 3) := by decide +kernel
theorem dX12_fastestFinish_19 : decode cX12_fastestFinish 19 = .ok (.bipush (-2), 2) := by decide +kernel
theorem dX12_fastestFinish_21 : decode cX12_fastestFinish 21 = .ok (.ireturn, 1) := by decide +kernel
set_option maxRecDepth 20000 in
theorem rX12_fastestFinish {I : MI} {Q : Int32 → MI → Prop} (H : (∀ I1 : MI, I1 = up2 I 261 0 0 → Wi mX12_layFastest [.ref 261] I1 (fun r3 I2 => ((r3 = 0 → (Q (-2) I2)) ∧ (¬ r3 = 0 → (Q (I2 261 32) I2)))))) : Wi mX12_fastestFinish [.ref 261] I Q := by
  show WP mX12_fastestFinish 286 Rf0 0 [some (.ref 261)] [] I (qi Q)
  refine w_aload_n dX12_fastestFinish_0 rfl rfl ?_
  refine w_iconst (v := 0) dX12_fastestFinish_1 (by decide) ?_
  refine w_putI dX12_fastestFinish_2 fl_12_87 okC12 kd_261 (by decide) (by decide) rfl rfl rfl (w_up fun I1 hI => ?_)
  replace H := H I1 hI
  refine w_aload_n dX12_fastestFinish_5 rfl rfl ?_
  refine w_callV (st := []) (As := []) dX12_fastestFinish_6 ml_12_264 okX12_layFastest kd_261 (by decide) rfl rfl rfl (Nat.le_of_ble_eq_true rfl) (by decide) (Nat.le_of_ble_eq_true rfl) (wc_i H (fun r3 I2 H => ?_))
  refine w_if_eq (t := 19) dX12_fastestFinish_9 (by decide) (fun h => ?_) (fun h => ?_)
  · replace H := H.1 h
    refine w_bipush (v := (-2)) dX12_fastestFinish_19 (by decide) ?_
    exact w_iret dX12_fastestFinish_21 rfl ⟨_, rfl, H⟩
  · replace H := H.2 h
    refine w_aload_n dX12_fastestFinish_12 rfl rfl ?_
    refine w_getI dX12_fastestFinish_13 fl_12_255 okC12 kd_261 (by decide) (by decide) rfl ?_
    refine w_goto (t := 21) dX12_fastestFinish_16 (by decide) ?_
    exact w_iret dX12_fastestFinish_21 rfl ⟨_, rfl, H⟩
theorem dX12_fastestStop_0 : decode cX12_fastestStop 0 = .ok (.aload_n 0, 1) := by decide +kernel
theorem dX12_fastestStop_1 : decode cX12_fastestStop 1 = .ok (.iconst 0, 1) := by decide +kernel
theorem dX12_fastestStop_2 : decode cX12_fastestStop 2 = .ok (.putfield 87, 3) := by decide +kernel
theorem dX12_fastestStop_5 : decode cX12_fastestStop 5 = .ok (.iload_n 1, 1) := by decide +kernel
theorem dX12_fastestStop_6 : decode cX12_fastestStop 6 = .ok (.ifCond .ge 5, 3) := by decide +kernel
theorem dX12_fastestStop_9 : decode cX12_fastestStop 9 = .ok (.iconst (-1), 1) := by decide +kernel
theorem dX12_fastestStop_10 : decode cX12_fastestStop 10 = .ok (.ireturn, 1) := by decide +kernel
theorem dX12_fastestStop_11 : decode cX12_fastestStop 11 = .ok (.aload_n 0, 1) := by decide +kernel
theorem dX12_fastestStop_12 : decode cX12_fastestStop 12 = .ok (.invokevirtual 264, 3) := by decide +kernel
theorem dX12_fastestStop_15 : decode cX12_fastestStop 15 = .ok (.ifCond .eq 11, 3) := by decide +kernel
theorem dX12_fastestStop_18 : decode cX12_fastestStop 18 = .ok (.aload_n 0, 1) := by decide +kernel
theorem dX12_fastestStop_19 : decode cX12_fastestStop 19 = .ok (.iload_n 1, 1) := by decide +kernel
theorem dX12_fastestStop_20 : decode cX12_fastestStop 20 = .ok (.invokevirtual 261, 3) := by decide +kernel
theorem dX12_fastestStop_23 : decode cX12_fastestStop 23 = .ok (.goto 5, 3) := by decide +kernel
theorem dX12_fastestStop_26 : decode cX12_fastestStop 26 = .ok (.bipush (-2), 2) := by decide +kernel
theorem dX12_fastestStop_28 : decode cX12_fastestStop 28 = .ok (.ireturn, 1) := by decide +kernel
set_option maxRecDepth 20000 in
theorem rX12_fastestStop {a1 : Int32} {I : MI} {Q : Int32 → MI → Prop} (H : (∀ I1 : MI, I1 = up2 I 261 0 0 → (0 ≤ a1 → (Wi mX12_layFastest [.ref 261] I1 (fun r3 I2 => ((r3 = 0 → (Q (-2) I2)) ∧ (¬ r3 = 0 → (Wi mX12_stopAt [.ref 261, .int a1] I2 (fun r5 I4 => (Q r5 I4)))))))) ∧ (¬ 0 ≤ a1 → (Q (-1) I1)))) : Wi mX12_fastestStop [.ref 261, .int a1] I Q := by
  show WP mX12_fastestStop 286 Rf0 0 [some (.ref 261), some (.int a1)] [] I (qi Q)
  refine w_aload_n dX12_fastestStop_0 rfl rfl ?_
  refine w_iconst (v := 0) dX12_fastestStop_1 (by decide) ?_
  refine w_putI dX12_fastestStop_2 fl_12_87 okC12 kd_261 (by decide) (by decide) rfl rfl rfl (w_up fun I1 hI => ?_)
  replace H := H I1 hI
  refine w_iload_n dX12_fastestStop_5 rfl rfl ?_
  refine w_if_ge (t := 11) dX12_fastestStop_6 (by decide) (fun h => ?_) (fun h => ?_)
  · replace H := H.1 h
    refine w_aload_n dX12_fastestStop_11 rfl rfl ?_
    refine w_callV (st := []) (As := []) dX12_fastestStop_12 ml_12_264 okX12_layFastest kd_261 (by decide) rfl rfl rfl (Nat.le_of_ble_eq_true rfl) (by decide) (Nat.le_of_ble_eq_true rfl) (wc_i H (fun r3 I2 H => ?_))
    refine w_if_eq (t := 26) dX12_fastestStop_15 (by decide) (fun h => ?_) (fun h => ?_)
    · replace H := H.1 h
      refine w_bipush (v := (-2)) dX12_fastestStop_26 (by decide) ?_
      exact w_iret dX12_fastestStop_28 rfl ⟨_, rfl, H⟩
    · replace H := H.2 h
      refine w_aload_n dX12_fastestStop_18 rfl rfl ?_
      refine w_iload_n dX12_fastestStop_19 rfl rfl ?_
      refine w_callV (st := []) (As := [.int a1]) dX12_fastestStop_20 ml_12_261 okX12_stopAt kd_261 (by decide) rfl rfl rfl (Nat.le_of_ble_eq_true rfl) (by decide) (Nat.le_of_ble_eq_true rfl) (wc_i H (fun r5 I4 H => ?_))
      refine w_goto (t := 28) dX12_fastestStop_23 (by decide) ?_
      exact w_iret dX12_fastestStop_28 rfl ⟨_, rfl, H⟩
  · replace H := H.2 h
    refine w_iconst (v := (-1)) dX12_fastestStop_9 (by decide) ?_
    exact w_iret dX12_fastestStop_10 rfl ⟨_, rfl, H⟩
theorem dX12_layOrder_0 : decode cX12_layOrder 0 = .ok (.iload_n 1, 1) := by decide +kernel
theorem dX12_layOrder_1 : decode cX12_layOrder 1 = .ok (.iconst 2, 1) := by decide +kernel
theorem dX12_layOrder_2 : decode cX12_layOrder 2 = .ok (.if_icmp .ne 8, 3) := by decide +kernel
theorem dX12_layOrder_5 : decode cX12_layOrder 5 = .ok (.aload_n 0, 1) := by decide +kernel
theorem dX12_layOrder_6 : decode cX12_layOrder 6 = .ok (.invokevirtual 264, 3) := by decide +kernel
theorem dX12_layOrder_9 : decode cX12_layOrder 9 = .ok (.ireturn, 1) := by decide +kernel
theorem dX12_layOrder_10 : decode cX12_layOrder 10 = .ok (.iload_n 1, 1) := by decide +kernel
theorem dX12_layOrder_11 : decode cX12_layOrder 11 = .ok (.iconst 1, 1) := by decide +kernel
theorem dX12_layOrder_12 : decode cX12_layOrder 12 = .ok (.if_icmp .ne 10, 3) := by decide +kernel
theorem dX12_layOrder_15 : decode cX12_layOrder 15 = .ok (.aload_n 0, 1) := by decide +kernel
theorem dX12_layOrder_16 : decode cX12_layOrder 16 = .ok (.invokevirtual 258, 3) := by decide +kernel
theorem dX12_layOrder_19 : decode cX12_layOrder 19 = .ok (.goto 7, 3) := by decide +kernel
theorem dX12_layOrder_22 : decode cX12_layOrder 22 = .ok (.aload_n 0, 1) := by decide +kernel
theorem dX12_layOrder_23 : decode cX12_layOrder 23 = .ok (.invokevirtual 268, 3) := by decide +kernel
theorem dX12_layOrder_26 : decode cX12_layOrder 26 = .ok (.iconst 1, 1) := by decide +kernel
theorem dX12_layOrder_27 : decode cX12_layOrder 27 = .ok (.ireturn, 1) := by decide +kernel
set_option maxRecDepth 20000 in
theorem rX12_layOrder {a1 : Int32} {I : MI} {Q : Int32 → MI → Prop} (H : ((¬ a1 = 2 → ((¬ a1 = 1 → (Wv mX12_layByNumber [.ref 261] I (fun I1 => (Q 1 I1)))) ∧ (a1 = 1 → (Wv mX12_layHorse [.ref 261] I (fun I1 => (Q 1 I1)))))) ∧ (a1 = 2 → (Wi mX12_layFastest [.ref 261] I (fun r2 I1 => (narrow .boolean (.int r2) = .int r2 ∧ Q r2 I1)))))) : Wi mX12_layOrder [.ref 261, .int a1] I Q := by
  show WP mX12_layOrder 286 Rf0 0 [some (.ref 261), some (.int a1)] [] I (qi Q)
  refine w_iload_n dX12_layOrder_0 rfl rfl ?_
  refine w_iconst (v := 2) dX12_layOrder_1 (by decide) ?_
  refine w_icmp_ne (t := 10) dX12_layOrder_2 (by decide) (fun h => ?_) (fun h => ?_)
  · replace H := H.1 h
    refine w_iload_n dX12_layOrder_10 rfl rfl ?_
    refine w_iconst (v := 1) dX12_layOrder_11 (by decide) ?_
    refine w_icmp_ne (t := 22) dX12_layOrder_12 (by decide) (fun h => ?_) (fun h => ?_)
    · replace H := H.1 h
      refine w_aload_n dX12_layOrder_22 rfl rfl ?_
      refine w_callV (st := []) (As := []) dX12_layOrder_23 ml_12_268 okX12_layByNumber kd_261 (by decide) rfl rfl rfl (Nat.le_of_ble_eq_true rfl) (by decide) (Nat.le_of_ble_eq_true rfl) (wc_v H (fun I1 H => ?_))
      refine w_iconst (v := 1) dX12_layOrder_26 (by decide) ?_
      exact w_zret dX12_layOrder_27 rfl rfl ⟨_, rfl, H⟩
    · replace H := H.2 h
      refine w_aload_n dX12_layOrder_15 rfl rfl ?_
      refine w_callV (st := []) (As := []) dX12_layOrder_16 ml_12_258 okX12_layHorse kd_261 (by decide) rfl rfl rfl (Nat.le_of_ble_eq_true rfl) (by decide) (Nat.le_of_ble_eq_true rfl) (wc_v H (fun I1 H => ?_))
      refine w_goto (t := 26) dX12_layOrder_19 (by decide) ?_
      refine w_iconst (v := 1) dX12_layOrder_26 (by decide) ?_
      exact w_zret dX12_layOrder_27 rfl rfl ⟨_, rfl, H⟩
  · replace H := H.2 h
    refine w_aload_n dX12_layOrder_5 rfl rfl ?_
    refine w_callV (st := []) (As := []) dX12_layOrder_6 ml_12_264 okX12_layFastest kd_261 (by decide) rfl rfl rfl (Nat.le_of_ble_eq_true rfl) (by decide) (Nat.le_of_ble_eq_true rfl) (wc_i H (fun r2 I1 H => ?_))
    exact w_zret dX12_layOrder_9 rfl H.1 ⟨_, rfl, H.2⟩
theorem dX12_stillWanted_0 : decode cX12_stillWanted 0 = .ok (.iconst 0, 1) := by decide +kernel
theorem dX12_stillWanted_1 : decode cX12_stillWanted 1 = .ok (.istore_n 1, 1) := by decide +kernel
theorem dX12_stillWanted_2 : decode cX12_stillWanted 2 = .ok (.iconst 0, 1) := by decide +kernel
theorem dX12_stillWanted_3 : decode cX12_stillWanted 3 = .ok (.istore_n 2, 1) := by decide +kernel
theorem dX12_stillWanted_4 : decode cX12_stillWanted 4 = .ok (.iload_n 2, 1) := by decide +kernel
theorem dX12_stillWanted_5 : decode cX12_stillWanted 5 = .ok (.aload_n 0, 1) := by decide +kernel
theorem dX12_stillWanted_6 : decode cX12_stillWanted 6 = .ok (.getfield 13, 3) := by decide +kernel
theorem dX12_stillWanted_9 : decode cX12_stillWanted 9 = .ok (.bipush 6, 2) := by decide +kernel
theorem dX12_stillWanted_11 : decode cX12_stillWanted 11 = .ok (.iaload, 1) := by decide +kernel
theorem dX12_stillWanted_12 : decode cX12_stillWanted 12 = .ok (.if_icmp .ge 30, 3) := by decide +kernel
theorem dX12_stillWanted_15 : decode cX12_stillWanted 15 = .ok (.iload_n 1, 1) := by decide +kernel
theorem dX12_stillWanted_16 : decode cX12_stillWanted 16 = .ok (.aload_n 0, 1) := by decide +kernel
theorem dX12_stillWanted_17 : decode cX12_stillWanted 17 = .ok (.getfield 81, 3) := by decide +kernel
theorem dX12_stillWanted_20 : decode cX12_stillWanted 20 = .ok (.iload_n 2, 1) := by decide +kernel
theorem dX12_stillWanted_21 : decode cX12_stillWanted 21 = .ok (.iaload, 1) := by decide +kernel
theorem dX12_stillWanted_22 : decode cX12_stillWanted 22 = .ok (.ifCond .ne 11, 3) := by decide +kernel
theorem dX12_stillWanted_25 : decode cX12_stillWanted 25 = .ok (.aload_n 0, 1) := by decide +kernel
theorem dX12_stillWanted_26 : decode cX12_stillWanted 26 = .ok (.iload_n 2, 1) := by decide +kernel
theorem dX12_stillWanted_27 : decode cX12_stillWanted 27 = .ok (.invokevirtual 230, 3) := by decide +kernel
theorem dX12_stillWanted_30 : decode cX12_stillWanted 30 = .ok (.goto 4, 3) := by decide +kernel
theorem dX12_stillWanted_33 : decode cX12_stillWanted 33 = .ok (.iconst 0, 1) := by decide +kernel
theorem dX12_stillWanted_34 : decode cX12_stillWanted 34 = .ok (.iadd, 1) := by decide +kernel
theorem dX12_stillWanted_35 : decode cX12_stillWanted 35 = .ok (.istore_n 1, 1) := by decide +kernel
theorem dX12_stillWanted_36 : decode cX12_stillWanted 36 = .ok (.iinc 2 1, 3) := by decide +kernel
theorem dX12_stillWanted_39 : decode cX12_stillWanted 39 = .ok (.goto (-35), 3) := by decide +kernel
theorem dX12_stillWanted_42 : decode cX12_stillWanted 42 = .ok (.iload_n 1, 1) := by decide +kernel
theorem dX12_stillWanted_43 : decode cX12_stillWanted 43 = .ok (.ireturn, 1) := by decide +kernel
abbrev LX12_stillWanted_4 (l1 l2 : Int32) (I : MI) (Q : Int32 → MI → Prop) : Prop := WP mX12_stillWanted 286 Rf0 4 [some (.ref 261), some (.int l1), some (.int l2)] [] I (qi Q)
abbrev LX12_stillWanted_34 (l1 l2 t0 t1 : Int32) (I : MI) (Q : Int32 → MI → Prop) : Prop := WP mX12_stillWanted 286 Rf0 34 [some (.ref 261), some (.int l1), some (.int l2)] [.int t1, .int t0] I (qi Q)
set_option maxRecDepth 20000 in
theorem rX12_stillWanted_4 {l1 l2 : Int32} {I : MI} {Q : Int32 → MI → Prop} (H : (vp_in 6 7 ∧ ((I 263 (6 : Int32).toNatClampNeg) ≤ l2 → (Q l1 I)) ∧ (¬ (I 263 (6 : Int32).toNatClampNeg) ≤ l2 → (vp_in l2 12 ∧ (¬ (I 285 l2.toNatClampNeg) = 0 → (LX12_stillWanted_34 l1 l2 l1 0 I Q)) ∧ ((I 285 l2.toNatClampNeg) = 0 → (Wi mX12_demandOf [.ref 261, .int l2] I (fun r2 I1 => (LX12_stillWanted_34 l1 l2 l1 r2 I1 Q)))))))) : LX12_stillWanted_4 l1 l2 I Q := by
  show WP mX12_stillWanted 286 Rf0 4 [some (.ref 261), some (.int l1), some (.int l2)] [] I (qi Q)
  refine w_iload_n dX12_stillWanted_4 rfl rfl ?_
  refine w_aload_n dX12_stillWanted_5 rfl rfl ?_
  refine w_getR dX12_stillWanted_6 fl_12_13 okC12 kd_261 (by decide) (by decide) rfl rf_261_10 ?_
  refine w_bipush (v := 6) dX12_stillWanted_9 (by decide) ?_
  refine w_iald dX12_stillWanted_11 kd_263 (by decide) H.1 ?_
  replace H := H.2
  refine w_icmp_ge (t := 42) dX12_stillWanted_12 (by decide) (fun h => ?_) (fun h => ?_)
  · replace H := H.1 h
    refine w_iload_n dX12_stillWanted_42 rfl rfl ?_
    exact w_iret dX12_stillWanted_43 rfl ⟨_, rfl, H⟩
  · replace H := H.2 h
    refine w_iload_n dX12_stillWanted_15 rfl rfl ?_
    refine w_aload_n dX12_stillWanted_16 rfl rfl ?_
    refine w_getR dX12_stillWanted_17 fl_12_81 okC12 kd_261 (by decide) (by decide) rfl rf_261_44 ?_
    refine w_iload_n dX12_stillWanted_20 rfl rfl ?_
    refine w_iald dX12_stillWanted_21 kd_285 (by decide) H.1 ?_
    replace H := H.2
    refine w_if_ne (t := 33) dX12_stillWanted_22 (by decide) (fun h => ?_) (fun h => ?_)
    · replace H := H.1 h
      refine w_iconst (v := 0) dX12_stillWanted_33 (by decide) ?_
      skip
      exact H
    · replace H := H.2 h
      refine w_aload_n dX12_stillWanted_25 rfl rfl ?_
      refine w_iload_n dX12_stillWanted_26 rfl rfl ?_
      refine w_callV (st := [.int l1]) (As := [.int l2]) dX12_stillWanted_27 ml_12_230 okX12_demandOf kd_261 (by decide) rfl rfl rfl (Nat.le_of_ble_eq_true rfl) (by decide) (Nat.le_of_ble_eq_true rfl) (wc_i H (fun r2 I1 H => ?_))
      refine w_goto (t := 34) dX12_stillWanted_30 (by decide) ?_
      skip
      exact H
set_option maxRecDepth 20000 in
theorem rX12_stillWanted_34 {l1 l2 t0 t1 : Int32} {I : MI} {Q : Int32 → MI → Prop} (H : (LX12_stillWanted_4 (t0 + t1) (l2 + 1) I Q)) : LX12_stillWanted_34 l1 l2 t0 t1 I Q := by
  show WP mX12_stillWanted 286 Rf0 34 [some (.ref 261), some (.int l1), some (.int l2)] [.int t1, .int t0] I (qi Q)
  refine w_iadd dX12_stillWanted_34 ?_
  refine w_istore_n (ls' := [some (.ref 261), some (.int (t0 + t1)), some (.int l2)]) dX12_stillWanted_35 rfl (by decide) rfl rfl ?_
  refine w_iinc (v := l2 + 1) (ls' := [some (.ref 261), some (.int (t0 + t1)), some (.int (l2 + 1))]) dX12_stillWanted_36 rfl rfl (by decide) rfl rfl ?_
  refine w_goto (t := 4) dX12_stillWanted_39 (by decide) ?_
  skip
  exact H
set_option maxRecDepth 20000 in
theorem rX12_stillWanted {I : MI} {Q : Int32 → MI → Prop} (H : (LX12_stillWanted_4 0 0 I Q)) : Wi mX12_stillWanted [.ref 261] I Q := by
  show WP mX12_stillWanted 286 Rf0 0 [some (.ref 261), none, none] [] I (qi Q)
  refine w_iconst (v := 0) dX12_stillWanted_0 (by decide) ?_
  refine w_istore_n (ls' := [some (.ref 261), some (.int 0), none]) dX12_stillWanted_1 rfl (by decide) rfl rfl ?_
  refine w_iconst (v := 0) dX12_stillWanted_2 (by decide) ?_
  refine w_istore_n (ls' := [some (.ref 261), some (.int 0), some (.int 0)]) dX12_stillWanted_3 rfl (by decide) rfl rfl ?_
  skip
  exact H
theorem dX12_reload_0 : decode cX12_reload 0 = .ok (.aload_n 0, 1) := by decide +kernel
theorem dX12_reload_1 : decode cX12_reload 1 = .ok (.iload_n 1, 1) := by decide +kernel
theorem dX12_reload_2 : decode cX12_reload 2 = .ok (.iconst 0, 1) := by decide +kernel
theorem dX12_reload_3 : decode cX12_reload 3 = .ok (.aload_n 0, 1) := by decide +kernel
theorem dX12_reload_4 : decode cX12_reload 4 = .ok (.getfield 271, 3) := by decide +kernel
theorem dX12_reload_7 : decode cX12_reload 7 = .ok (.invokevirtual 226, 3) := by decide +kernel
theorem dX12_reload_10 : decode cX12_reload 10 = .ok (.istore_n 2, 1) := by decide +kernel
theorem dX12_reload_11 : decode cX12_reload 11 = .ok (.iload_n 2, 1) := by decide +kernel
theorem dX12_reload_12 : decode cX12_reload 12 = .ok (.ldc 205, 2) := by decide +kernel
theorem dX12_reload_14 : decode cX12_reload 14 = .ok (.if_icmp .ne 9, 3) := by decide +kernel
theorem dX12_reload_17 : decode cX12_reload 17 = .ok (.aload_n 0, 1) := by decide +kernel
theorem dX12_reload_18 : decode cX12_reload 18 = .ok (.iconst 1, 1) := by decide +kernel
theorem dX12_reload_19 : decode cX12_reload 19 = .ok (.putfield 274, 3) := by decide +kernel
theorem dX12_reload_22 : decode cX12_reload 22 = .ok (.return_, 1) := by decide +kernel
theorem dX12_reload_23 : decode cX12_reload 23 = .ok (.aload_n 0, 1) := by decide +kernel
theorem dX12_reload_24 : decode cX12_reload 24 = .ok (.iconst 0, 1) := by decide +kernel
theorem dX12_reload_25 : decode cX12_reload 25 = .ok (.putfield 278, 3) := by decide +kernel
theorem dX12_reload_28 : decode cX12_reload 28 = .ok (.aload_n 0, 1) := by decide +kernel
theorem dX12_reload_29 : decode cX12_reload 29 = .ok (.iconst 0, 1) := by decide +kernel
theorem dX12_reload_30 : decode cX12_reload 30 = .ok (.putfield 281, 3) := by decide +kernel
theorem dX12_reload_33 : decode cX12_reload 33 = .ok (.aload_n 0, 1) := by decide +kernel
theorem dX12_reload_34 : decode cX12_reload 34 = .ok (.aload_n 0, 1) := by decide +kernel
theorem dX12_reload_35 : decode cX12_reload 35 = .ok (.getfield 13, 3) := by decide +kernel
theorem dX12_reload_38 : decode cX12_reload 38 = .ok (.iconst 1, 1) := by decide +kernel
theorem dX12_reload_39 : decode cX12_reload 39 = .ok (.iaload, 1) := by decide +kernel
theorem dX12_reload_40 : decode cX12_reload 40 = .ok (.aload_n 0, 1) := by decide +kernel
theorem dX12_reload_41 : decode cX12_reload 41 = .ok (.invokevirtual 284, 3) := by decide +kernel
theorem dX12_reload_44 : decode cX12_reload 44 = .ok (.invokestatic 209, 3) := by decide +kernel
theorem dX12_reload_47 : decode cX12_reload 47 = .ok (.putfield 287, 3) := by decide +kernel
theorem dX12_reload_50 : decode cX12_reload 50 = .ok (.aload_n 0, 1) := by decide +kernel
theorem dX12_reload_51 : decode cX12_reload 51 = .ok (.dup, 1) := by decide +kernel
theorem dX12_reload_52 : decode cX12_reload 52 = .ok (.getfield 290, 3) := by decide +kernel
theorem dX12_reload_55 : decode cX12_reload 55 = .ok (.iconst 1, 1) := by decide +kernel
theorem dX12_reload_56 : decode cX12_reload 56 = .ok (.iadd, 1) := by decide +kernel
theorem dX12_reload_57 : decode cX12_reload 57 = .ok (.putfield 290, 3) := by decide +kernel
theorem dX12_reload_60 : decode cX12_reload 60 = .ok (.aload_n 0, 1) := by decide +kernel
theorem dX12_reload_61 : decode cX12_reload 61 = .ok (.iload_n 2, 1) := by decide +kernel
theorem dX12_reload_62 : decode cX12_reload 62 = .ok (.bipush 10, 2) := by decide +kernel
theorem dX12_reload_64 : decode cX12_reload 64 = .ok (.iadd, 1) := by decide +kernel
theorem dX12_reload_65 : decode cX12_reload 65 = .ok (.putfield 271, 3) := by decide +kernel
theorem dX12_reload_68 : decode cX12_reload 68 = .ok (.aload_n 0, 1) := by decide +kernel
theorem dX12_reload_69 : decode cX12_reload 69 = .ok (.iconst 0, 1) := by decide +kernel
theorem dX12_reload_70 : decode cX12_reload 70 = .ok (.iload_n 1, 1) := by decide +kernel
theorem dX12_reload_71 : decode cX12_reload 71 = .ok (.aload_n 0, 1) := by decide +kernel
theorem dX12_reload_72 : decode cX12_reload 72 = .ok (.getfield 271, 3) := by decide +kernel
theorem dX12_reload_75 : decode cX12_reload 75 = .ok (.invokevirtual 226, 3) := by decide +kernel
theorem dX12_reload_78 : decode cX12_reload 78 = .ok (.istore_n 3, 1) := by decide +kernel
theorem dX12_reload_79 : decode cX12_reload 79 = .ok (.iload_n 3, 1) := by decide +kernel
theorem dX12_reload_80 : decode cX12_reload 80 = .ok (.ldc 205, 2) := by decide +kernel
theorem dX12_reload_82 : decode cX12_reload 82 = .ok (.if_icmp .ne 9, 3) := by decide +kernel
theorem dX12_reload_85 : decode cX12_reload 85 = .ok (.aload_n 0, 1) := by decide +kernel
theorem dX12_reload_86 : decode cX12_reload 86 = .ok (.iconst 1, 1) := by decide +kernel
theorem dX12_reload_87 : decode cX12_reload 87 = .ok (.putfield 274, 3) := by decide +kernel
theorem dX12_reload_90 : decode cX12_reload 90 = .ok (.return_, 1) := by decide +kernel
theorem dX12_reload_91 : decode cX12_reload 91 = .ok (.aload_n 0, 1) := by decide +kernel
theorem dX12_reload_92 : decode cX12_reload 92 = .ok (.iload_n 1, 1) := by decide +kernel
theorem dX12_reload_93 : decode cX12_reload 93 = .ok (.putfield 278, 3) := by decide +kernel
theorem dX12_reload_96 : decode cX12_reload 96 = .ok (.aload_n 0, 1) := by decide +kernel
theorem dX12_reload_97 : decode cX12_reload 97 = .ok (.iload_n 3, 1) := by decide +kernel
theorem dX12_reload_98 : decode cX12_reload 98 = .ok (.putfield 271, 3) := by decide +kernel
theorem dX12_reload_101 : decode cX12_reload 101 = .ok (.return_, 1) := by decide +kernel
set_option maxRecDepth 20000 in
theorem rX12_reload {a1 : Int32} {I : MI} {Q : MI → Prop} (H : (Wi mX12_arrivalOf [.ref 261, .int a1, .int 0, .int (I 261 33)] I (fun r2 I1 => ((¬ r2 = 1000000000 → (∀ I3 : MI, I3 = up2 I1 261 34 0 → ∀ I4 : MI, I4 = up2 I3 261 36 0 → vp_in 1 7 ∧ Wi mX12_stillWanted [.ref 261] I4 (fun r6 I5 => (∀ x7 : Int32, x7 = (if r6 < (I4 263 (1 : Int32).toNatClampNeg) then r6 else (I4 263 (1 : Int32).toNatClampNeg)) → ∀ I8 : MI, I8 = up2 I5 261 35 x7 → ∀ I9 : MI, I9 = up2 I8 261 40 ((I8 261 40) + 1) → ∀ I10 : MI, I10 = up2 I9 261 33 (r2 + 10) → Wi mX12_arrivalOf [.ref 261, .int 0, .int a1, .int (I10 261 33)] I10 (fun r12 I11 => ((¬ r12 = 1000000000 → (∀ I13 : MI, I13 = up2 I11 261 34 a1 → ∀ I14 : MI, I14 = up2 I13 261 33 r12 → Q I14)) ∧ (r12 = 1000000000 → (∀ I13 : MI, I13 = up2 I11 261 38 1 → Q I13)))))))) ∧ (r2 = 1000000000 → (∀ I3 : MI, I3 = up2 I1 261 38 1 → Q I3)))))) : Wv mX12_reload [.ref 261, .int a1] I Q := by
  show WP mX12_reload 286 Rf0 0 [some (.ref 261), some (.int a1), none, none] [] I (qv Q)
  refine w_aload_n dX12_reload_0 rfl rfl ?_
  refine w_iload_n dX12_reload_1 rfl rfl ?_
  refine w_iconst (v := 0) dX12_reload_2 (by decide) ?_
  refine w_aload_n dX12_reload_3 rfl rfl ?_
  refine w_getI dX12_reload_4 fl_12_271 okC12 kd_261 (by decide) (by decide) rfl ?_
  refine w_callV (st := []) (As := [.int a1, .int 0, .int (I 261 33)]) dX12_reload_7 ml_12_226 okX12_arrivalOf kd_261 (by decide) rfl rfl rfl (Nat.le_of_ble_eq_true rfl) (by decide) (Nat.le_of_ble_eq_true rfl) (wc_i H (fun r2 I1 H => ?_))
  refine w_istore_n (ls' := [some (.ref 261), some (.int a1), some (.int r2), none]) dX12_reload_10 rfl (by decide) rfl rfl ?_
  refine w_iload_n dX12_reload_11 rfl rfl ?_
  refine w_ldc (v := 1000000000) dX12_reload_12 kl_12_205 ?_
  refine w_icmp_ne (t := 23) dX12_reload_14 (by decide) (fun h => ?_) (fun h => ?_)
  · replace H := H.1 h
    refine w_aload_n dX12_reload_23 rfl rfl ?_
    refine w_iconst (v := 0) dX12_reload_24 (by decide) ?_
    refine w_putI dX12_reload_25 fl_12_278 okC12 kd_261 (by decide) (by decide) rfl rfl rfl (w_up fun I3 hI => ?_)
    replace H := H I3 hI
    refine w_aload_n dX12_reload_28 rfl rfl ?_
    refine w_iconst (v := 0) dX12_reload_29 (by decide) ?_
    refine w_putI dX12_reload_30 fl_12_281 okC12 kd_261 (by decide) (by decide) rfl rfl rfl (w_up fun I4 hI => ?_)
    replace H := H I4 hI
    refine w_aload_n dX12_reload_33 rfl rfl ?_
    refine w_aload_n dX12_reload_34 rfl rfl ?_
    refine w_getR dX12_reload_35 fl_12_13 okC12 kd_261 (by decide) (by decide) rfl rf_261_10 ?_
    refine w_iconst (v := 1) dX12_reload_38 (by decide) ?_
    refine w_iald dX12_reload_39 kd_263 (by decide) H.1 ?_
    replace H := H.2
    refine w_aload_n dX12_reload_40 rfl rfl ?_
    refine w_callV (st := [.int (I4 263 (1 : Int32).toNatClampNeg), .ref 261]) (As := []) dX12_reload_41 ml_12_284 okX12_stillWanted kd_261 (by decide) rfl rfl rfl (Nat.le_of_ble_eq_true rfl) (by decide) (Nat.le_of_ble_eq_true rfl) (wc_i H (fun r6 I5 H => ?_))
    refine w_min dX12_reload_44 ml_12_209 minS maI minC (by decide) (Nat.le_of_ble_eq_true rfl) ?_
    refine w_top fun x7 hx => ?_
    replace H := H x7 hx
    refine w_putI dX12_reload_47 fl_12_287 okC12 kd_261 (by decide) (by decide) rfl rfl rfl (w_up fun I8 hI => ?_)
    replace H := H I8 hI
    refine w_aload_n dX12_reload_50 rfl rfl ?_
    refine w_dup dX12_reload_51 rfl ?_
    refine w_getI dX12_reload_52 fl_12_290 okC12 kd_261 (by decide) (by decide) rfl ?_
    refine w_iconst (v := 1) dX12_reload_55 (by decide) ?_
    refine w_iadd dX12_reload_56 ?_
    refine w_putI dX12_reload_57 fl_12_290 okC12 kd_261 (by decide) (by decide) rfl rfl rfl (w_up fun I9 hI => ?_)
    replace H := H I9 hI
    refine w_aload_n dX12_reload_60 rfl rfl ?_
    refine w_iload_n dX12_reload_61 rfl rfl ?_
    refine w_bipush (v := 10) dX12_reload_62 (by decide) ?_
    refine w_iadd dX12_reload_64 ?_
    refine w_putI dX12_reload_65 fl_12_271 okC12 kd_261 (by decide) (by decide) rfl rfl rfl (w_up fun I10 hI => ?_)
    replace H := H I10 hI
    refine w_aload_n dX12_reload_68 rfl rfl ?_
    refine w_iconst (v := 0) dX12_reload_69 (by decide) ?_
    refine w_iload_n dX12_reload_70 rfl rfl ?_
    refine w_aload_n dX12_reload_71 rfl rfl ?_
    refine w_getI dX12_reload_72 fl_12_271 okC12 kd_261 (by decide) (by decide) rfl ?_
    refine w_callV (st := []) (As := [.int 0, .int a1, .int (I10 261 33)]) dX12_reload_75 ml_12_226 okX12_arrivalOf kd_261 (by decide) rfl rfl rfl (Nat.le_of_ble_eq_true rfl) (by decide) (Nat.le_of_ble_eq_true rfl) (wc_i H (fun r12 I11 H => ?_))
    refine w_istore_n (ls' := [some (.ref 261), some (.int a1), some (.int r2), some (.int r12)]) dX12_reload_78 rfl (by decide) rfl rfl ?_
    refine w_iload_n dX12_reload_79 rfl rfl ?_
    refine w_ldc (v := 1000000000) dX12_reload_80 kl_12_205 ?_
    refine w_icmp_ne (t := 91) dX12_reload_82 (by decide) (fun h => ?_) (fun h => ?_)
    · replace H := H.1 h
      refine w_aload_n dX12_reload_91 rfl rfl ?_
      refine w_iload_n dX12_reload_92 rfl rfl ?_
      refine w_putI dX12_reload_93 fl_12_278 okC12 kd_261 (by decide) (by decide) rfl rfl rfl (w_up fun I13 hI => ?_)
      replace H := H I13 hI
      refine w_aload_n dX12_reload_96 rfl rfl ?_
      refine w_iload_n dX12_reload_97 rfl rfl ?_
      refine w_putI dX12_reload_98 fl_12_271 okC12 kd_261 (by decide) (by decide) rfl rfl rfl (w_up fun I14 hI => ?_)
      replace H := H I14 hI
      exact w_vret dX12_reload_101 rfl ⟨rfl, H⟩
    · replace H := H.2 h
      refine w_aload_n dX12_reload_85 rfl rfl ?_
      refine w_iconst (v := 1) dX12_reload_86 (by decide) ?_
      refine w_putZ dX12_reload_87 fl_12_274 okC12 kd_261 (by decide) (by decide) rfl rfl rfl (by decide) (w_up fun I13 hI => ?_)
      replace H := H I13 hI
      exact w_vret dX12_reload_90 rfl ⟨rfl, H⟩
  · replace H := H.2 h
    refine w_aload_n dX12_reload_17 rfl rfl ?_
    refine w_iconst (v := 1) dX12_reload_18 (by decide) ?_
    refine w_putZ dX12_reload_19 fl_12_274 okC12 kd_261 (by decide) (by decide) rfl rfl rfl (by decide) (w_up fun I3 hI => ?_)
    replace H := H I3 hI
    exact w_vret dX12_reload_22 rfl ⟨rfl, H⟩
theorem dX12_visit_0 : decode cX12_visit 0 = .ok (.aload_n 0, 1) := by decide +kernel
theorem dX12_visit_1 : decode cX12_visit 1 = .ok (.dup, 1) := by decide +kernel
theorem dX12_visit_2 : decode cX12_visit 2 = .ok (.getfield 271, 3) := by decide +kernel
theorem dX12_visit_5 : decode cX12_visit 5 = .ok (.iconst 2, 1) := by decide +kernel
theorem dX12_visit_6 : decode cX12_visit 6 = .ok (.aload_n 0, 1) := by decide +kernel
theorem dX12_visit_7 : decode cX12_visit 7 = .ok (.getfield 38, 3) := by decide +kernel
theorem dX12_visit_10 : decode cX12_visit 10 = .ok (.iload_n 1, 1) := by decide +kernel
theorem dX12_visit_11 : decode cX12_visit 11 = .ok (.iaload, 1) := by decide +kernel
theorem dX12_visit_12 : decode cX12_visit 12 = .ok (.imul, 1) := by decide +kernel
theorem dX12_visit_13 : decode cX12_visit 13 = .ok (.iconst 1, 1) := by decide +kernel
theorem dX12_visit_14 : decode cX12_visit 14 = .ok (.iadd, 1) := by decide +kernel
theorem dX12_visit_15 : decode cX12_visit 15 = .ok (.iadd, 1) := by decide +kernel
theorem dX12_visit_16 : decode cX12_visit 16 = .ok (.putfield 271, 3) := by decide +kernel
theorem dX12_visit_19 : decode cX12_visit 19 = .ok (.aload_n 0, 1) := by decide +kernel
theorem dX12_visit_20 : decode cX12_visit 20 = .ok (.dup, 1) := by decide +kernel
theorem dX12_visit_21 : decode cX12_visit 21 = .ok (.getfield 287, 3) := by decide +kernel
theorem dX12_visit_24 : decode cX12_visit 24 = .ok (.aload_n 0, 1) := by decide +kernel
theorem dX12_visit_25 : decode cX12_visit 25 = .ok (.iload_n 1, 1) := by decide +kernel
theorem dX12_visit_26 : decode cX12_visit 26 = .ok (.invokevirtual 230, 3) := by decide +kernel
theorem dX12_visit_29 : decode cX12_visit 29 = .ok (.isub, 1) := by decide +kernel
theorem dX12_visit_30 : decode cX12_visit 30 = .ok (.putfield 287, 3) := by decide +kernel
theorem dX12_visit_33 : decode cX12_visit 33 = .ok (.iconst 0, 1) := by decide +kernel
theorem dX12_visit_34 : decode cX12_visit 34 = .ok (.aload_n 0, 1) := by decide +kernel
theorem dX12_visit_35 : decode cX12_visit 35 = .ok (.getfield 47, 3) := by decide +kernel
theorem dX12_visit_38 : decode cX12_visit 38 = .ok (.sipush 145, 3) := by decide +kernel
theorem dX12_visit_41 : decode cX12_visit 41 = .ok (.iload_n 1, 1) := by decide +kernel
theorem dX12_visit_42 : decode cX12_visit 42 = .ok (.iadd, 1) := by decide +kernel
theorem dX12_visit_43 : decode cX12_visit 43 = .ok (.iaload, 1) := by decide +kernel
theorem dX12_visit_44 : decode cX12_visit 44 = .ok (.aload_n 0, 1) := by decide +kernel
theorem dX12_visit_45 : decode cX12_visit 45 = .ok (.getfield 47, 3) := by decide +kernel
theorem dX12_visit_48 : decode cX12_visit 48 = .ok (.bipush 85, 2) := by decide +kernel
theorem dX12_visit_50 : decode cX12_visit 50 = .ok (.iload_n 1, 1) := by decide +kernel
theorem dX12_visit_51 : decode cX12_visit 51 = .ok (.iadd, 1) := by decide +kernel
theorem dX12_visit_52 : decode cX12_visit 52 = .ok (.iaload, 1) := by decide +kernel
theorem dX12_visit_53 : decode cX12_visit 53 = .ok (.isub, 1) := by decide +kernel
theorem dX12_visit_54 : decode cX12_visit 54 = .ok (.invokestatic 293, 3) := by decide +kernel
theorem dX12_visit_57 : decode cX12_visit 57 = .ok (.istore_n 2, 1) := by decide +kernel
theorem dX12_visit_58 : decode cX12_visit 58 = .ok (.iload_n 2, 1) := by decide +kernel
theorem dX12_visit_59 : decode cX12_visit 59 = .ok (.iconst 0, 1) := by decide +kernel
theorem dX12_visit_60 : decode cX12_visit 60 = .ok (.aload_n 0, 1) := by decide +kernel
theorem dX12_visit_61 : decode cX12_visit 61 = .ok (.getfield 13, 3) := by decide +kernel
theorem dX12_visit_64 : decode cX12_visit 64 = .ok (.iconst 1, 1) := by decide +kernel
theorem dX12_visit_65 : decode cX12_visit 65 = .ok (.iaload, 1) := by decide +kernel
theorem dX12_visit_66 : decode cX12_visit 66 = .ok (.aload_n 0, 1) := by decide +kernel
theorem dX12_visit_67 : decode cX12_visit 67 = .ok (.getfield 287, 3) := by decide +kernel
theorem dX12_visit_70 : decode cX12_visit 70 = .ok (.isub, 1) := by decide +kernel
theorem dX12_visit_71 : decode cX12_visit 71 = .ok (.aload_n 0, 1) := by decide +kernel
theorem dX12_visit_72 : decode cX12_visit 72 = .ok (.getfield 281, 3) := by decide +kernel
theorem dX12_visit_75 : decode cX12_visit 75 = .ok (.isub, 1) := by decide +kernel
theorem dX12_visit_76 : decode cX12_visit 76 = .ok (.invokestatic 293, 3) := by decide +kernel
theorem dX12_visit_79 : decode cX12_visit 79 = .ok (.invokestatic 209, 3) := by decide +kernel
theorem dX12_visit_82 : decode cX12_visit 82 = .ok (.istore_n 3, 1) := by decide +kernel
theorem dX12_visit_83 : decode cX12_visit 83 = .ok (.aload_n 0, 1) := by decide +kernel
theorem dX12_visit_84 : decode cX12_visit 84 = .ok (.dup, 1) := by decide +kernel
theorem dX12_visit_85 : decode cX12_visit 85 = .ok (.getfield 281, 3) := by decide +kernel
theorem dX12_visit_88 : decode cX12_visit 88 = .ok (.iload_n 3, 1) := by decide +kernel
theorem dX12_visit_89 : decode cX12_visit 89 = .ok (.iadd, 1) := by decide +kernel
theorem dX12_visit_90 : decode cX12_visit 90 = .ok (.putfield 281, 3) := by decide +kernel
theorem dX12_visit_93 : decode cX12_visit 93 = .ok (.aload_n 0, 1) := by decide +kernel
theorem dX12_visit_94 : decode cX12_visit 94 = .ok (.getfield 81, 3) := by decide +kernel
theorem dX12_visit_97 : decode cX12_visit 97 = .ok (.iload_n 1, 1) := by decide +kernel
theorem dX12_visit_98 : decode cX12_visit 98 = .ok (.iconst 1, 1) := by decide +kernel
theorem dX12_visit_99 : decode cX12_visit 99 = .ok (.iastore, 1) := by decide +kernel
theorem dX12_visit_100 : decode cX12_visit 100 = .ok (.aload_n 0, 1) := by decide +kernel
theorem dX12_visit_101 : decode cX12_visit 101 = .ok (.getfield 72, 3) := by decide +kernel
theorem dX12_visit_104 : decode cX12_visit 104 = .ok (.aload_n 0, 1) := by decide +kernel
theorem dX12_visit_105 : decode cX12_visit 105 = .ok (.getfield 296, 3) := by decide +kernel
theorem dX12_visit_108 : decode cX12_visit 108 = .ok (.iload_n 1, 1) := by decide +kernel
theorem dX12_visit_109 : decode cX12_visit 109 = .ok (.iastore, 1) := by decide +kernel
theorem dX12_visit_110 : decode cX12_visit 110 = .ok (.aload_n 0, 1) := by decide +kernel
theorem dX12_visit_111 : decode cX12_visit 111 = .ok (.getfield 75, 3) := by decide +kernel
theorem dX12_visit_114 : decode cX12_visit 114 = .ok (.aload_n 0, 1) := by decide +kernel
theorem dX12_visit_115 : decode cX12_visit 115 = .ok (.getfield 296, 3) := by decide +kernel
theorem dX12_visit_118 : decode cX12_visit 118 = .ok (.aload_n 0, 1) := by decide +kernel
theorem dX12_visit_119 : decode cX12_visit 119 = .ok (.getfield 271, 3) := by decide +kernel
theorem dX12_visit_122 : decode cX12_visit 122 = .ok (.iastore, 1) := by decide +kernel
theorem dX12_visit_123 : decode cX12_visit 123 = .ok (.aload_n 0, 1) := by decide +kernel
theorem dX12_visit_124 : decode cX12_visit 124 = .ok (.getfield 78, 3) := by decide +kernel
theorem dX12_visit_127 : decode cX12_visit 127 = .ok (.aload_n 0, 1) := by decide +kernel
theorem dX12_visit_128 : decode cX12_visit 128 = .ok (.getfield 296, 3) := by decide +kernel
theorem dX12_visit_131 : decode cX12_visit 131 = .ok (.iload_n 3, 1) := by decide +kernel
theorem dX12_visit_132 : decode cX12_visit 132 = .ok (.iastore, 1) := by decide +kernel
theorem dX12_visit_133 : decode cX12_visit 133 = .ok (.aload_n 0, 1) := by decide +kernel
theorem dX12_visit_134 : decode cX12_visit 134 = .ok (.dup, 1) := by decide +kernel
theorem dX12_visit_135 : decode cX12_visit 135 = .ok (.getfield 296, 3) := by decide +kernel
theorem dX12_visit_138 : decode cX12_visit 138 = .ok (.iconst 1, 1) := by decide +kernel
theorem dX12_visit_139 : decode cX12_visit 139 = .ok (.iadd, 1) := by decide +kernel
theorem dX12_visit_140 : decode cX12_visit 140 = .ok (.putfield 296, 3) := by decide +kernel
theorem dX12_visit_143 : decode cX12_visit 143 = .ok (.return_, 1) := by decide +kernel
set_option maxRecDepth 20000 in
theorem rX12_visit {a1 : Int32} {I : MI} {Q : MI → Prop} (H : (vp_in a1 24 ∧ ∀ I1 : MI, I1 = up2 I 261 33 ((I 261 33) + ((2 * (I 271 a1.toNatClampNeg)) + 1)) → Wi mX12_demandOf [.ref 261, .int a1] I1 (fun r3 I2 => (∀ I4 : MI, I4 = up2 I2 261 35 ((I1 261 35) - r3) → vp_in (145 + a1) 332 ∧ vp_in (85 + a1) 332 ∧ ∀ x5 : Int32, x5 = (if 0 < ((I4 274 (145 + a1).toNatClampNeg) - (I4 274 (85 + a1).toNatClampNeg)) then ((I4 274 (145 + a1).toNatClampNeg) - (I4 274 (85 + a1).toNatClampNeg)) else 0) → vp_in 1 7 ∧ ∀ x6 : Int32, x6 = (if 0 < (((I4 263 (1 : Int32).toNatClampNeg) - (I4 261 35)) - (I4 261 36)) then (((I4 263 (1 : Int32).toNatClampNeg) - (I4 261 35)) - (I4 261 36)) else 0) → ∀ x7 : Int32, x7 = (if x6 < x5 then x6 else x5) → ∀ I8 : MI, I8 = up2 I4 261 36 ((I4 261 36) + x7) → vp_in a1 12 ∧ ∀ I9 : MI, I9 = up2 I8 285 a1.toNatClampNeg 1 → vp_in (I9 261 39) 12 ∧ ∀ I10 : MI, I10 = up2 I9 282 (I9 261 39).toNatClampNeg a1 → vp_in (I10 261 39) 12 ∧ ∀ I11 : MI, I11 = up2 I10 283 (I10 261 39).toNatClampNeg (I10 261 33) → vp_in (I11 261 39) 12 ∧ ∀ I12 : MI, I12 = up2 I11 284 (I11 261 39).toNatClampNeg x7 → ∀ I13 : MI, I13 = up2 I12 261 39 ((I12 261 39) + 1) → Q I13)))) : Wv mX12_visit [.ref 261, .int a1] I Q := by
  show WP mX12_visit 286 Rf0 0 [some (.ref 261), some (.int a1), none, none] [] I (qv Q)
  refine w_aload_n dX12_visit_0 rfl rfl ?_
  refine w_dup dX12_visit_1 rfl ?_
  refine w_getI dX12_visit_2 fl_12_271 okC12 kd_261 (by decide) (by decide) rfl ?_
  refine w_iconst (v := 2) dX12_visit_5 (by decide) ?_
  refine w_aload_n dX12_visit_6 rfl rfl ?_
  refine w_getR dX12_visit_7 fl_12_38 okC12 kd_261 (by decide) (by decide) rfl rf_261_18 ?_
  refine w_iload_n dX12_visit_10 rfl rfl ?_
  refine w_iald dX12_visit_11 kd_271 (by decide) H.1 ?_
  replace H := H.2
  refine w_imul dX12_visit_12 ?_
  refine w_iconst (v := 1) dX12_visit_13 (by decide) ?_
  refine w_iadd dX12_visit_14 ?_
  refine w_iadd dX12_visit_15 ?_
  refine w_putI dX12_visit_16 fl_12_271 okC12 kd_261 (by decide) (by decide) rfl rfl rfl (w_up fun I1 hI => ?_)
  replace H := H I1 hI
  refine w_aload_n dX12_visit_19 rfl rfl ?_
  refine w_dup dX12_visit_20 rfl ?_
  refine w_getI dX12_visit_21 fl_12_287 okC12 kd_261 (by decide) (by decide) rfl ?_
  refine w_aload_n dX12_visit_24 rfl rfl ?_
  refine w_iload_n dX12_visit_25 rfl rfl ?_
  refine w_callV (st := [.int (I1 261 35), .ref 261]) (As := [.int a1]) dX12_visit_26 ml_12_230 okX12_demandOf kd_261 (by decide) rfl rfl rfl (Nat.le_of_ble_eq_true rfl) (by decide) (Nat.le_of_ble_eq_true rfl) (wc_i H (fun r3 I2 H => ?_))
  refine w_isub dX12_visit_29 ?_
  refine w_putI dX12_visit_30 fl_12_287 okC12 kd_261 (by decide) (by decide) rfl rfl rfl (w_up fun I4 hI => ?_)
  replace H := H I4 hI
  refine w_iconst (v := 0) dX12_visit_33 (by decide) ?_
  refine w_aload_n dX12_visit_34 rfl rfl ?_
  refine w_getR dX12_visit_35 fl_12_47 okC12 kd_261 (by decide) (by decide) rfl rf_261_22 ?_
  refine w_sipush (v := 145) dX12_visit_38 (by decide) ?_
  refine w_iload_n dX12_visit_41 rfl rfl ?_
  refine w_iadd dX12_visit_42 ?_
  refine w_iald dX12_visit_43 kd_274 (by decide) H.1 ?_
  replace H := H.2
  refine w_aload_n dX12_visit_44 rfl rfl ?_
  refine w_getR dX12_visit_45 fl_12_47 okC12 kd_261 (by decide) (by decide) rfl rf_261_22 ?_
  refine w_bipush (v := 85) dX12_visit_48 (by decide) ?_
  refine w_iload_n dX12_visit_50 rfl rfl ?_
  refine w_iadd dX12_visit_51 ?_
  refine w_iald dX12_visit_52 kd_274 (by decide) H.1 ?_
  replace H := H.2
  refine w_isub dX12_visit_53 ?_
  refine w_max dX12_visit_54 ml_12_293 maxS maI maxC (by decide) (Nat.le_of_ble_eq_true rfl) ?_
  refine w_top fun x5 hx => ?_
  replace H := H x5 hx
  refine w_istore_n (ls' := [some (.ref 261), some (.int a1), some (.int x5), none]) dX12_visit_57 rfl (by decide) rfl rfl ?_
  refine w_iload_n dX12_visit_58 rfl rfl ?_
  refine w_iconst (v := 0) dX12_visit_59 (by decide) ?_
  refine w_aload_n dX12_visit_60 rfl rfl ?_
  refine w_getR dX12_visit_61 fl_12_13 okC12 kd_261 (by decide) (by decide) rfl rf_261_10 ?_
  refine w_iconst (v := 1) dX12_visit_64 (by decide) ?_
  refine w_iald dX12_visit_65 kd_263 (by decide) H.1 ?_
  replace H := H.2
  refine w_aload_n dX12_visit_66 rfl rfl ?_
  refine w_getI dX12_visit_67 fl_12_287 okC12 kd_261 (by decide) (by decide) rfl ?_
  refine w_isub dX12_visit_70 ?_
  refine w_aload_n dX12_visit_71 rfl rfl ?_
  refine w_getI dX12_visit_72 fl_12_281 okC12 kd_261 (by decide) (by decide) rfl ?_
  refine w_isub dX12_visit_75 ?_
  refine w_max dX12_visit_76 ml_12_293 maxS maI maxC (by decide) (Nat.le_of_ble_eq_true rfl) ?_
  refine w_top fun x6 hx => ?_
  replace H := H x6 hx
  refine w_min dX12_visit_79 ml_12_209 minS maI minC (by decide) (Nat.le_of_ble_eq_true rfl) ?_
  refine w_top fun x7 hx => ?_
  replace H := H x7 hx
  refine w_istore_n (ls' := [some (.ref 261), some (.int a1), some (.int x5), some (.int x7)]) dX12_visit_82 rfl (by decide) rfl rfl ?_
  refine w_aload_n dX12_visit_83 rfl rfl ?_
  refine w_dup dX12_visit_84 rfl ?_
  refine w_getI dX12_visit_85 fl_12_281 okC12 kd_261 (by decide) (by decide) rfl ?_
  refine w_iload_n dX12_visit_88 rfl rfl ?_
  refine w_iadd dX12_visit_89 ?_
  refine w_putI dX12_visit_90 fl_12_281 okC12 kd_261 (by decide) (by decide) rfl rfl rfl (w_up fun I8 hI => ?_)
  replace H := H I8 hI
  refine w_aload_n dX12_visit_93 rfl rfl ?_
  refine w_getR dX12_visit_94 fl_12_81 okC12 kd_261 (by decide) (by decide) rfl rf_261_44 ?_
  refine w_iload_n dX12_visit_97 rfl rfl ?_
  refine w_iconst (v := 1) dX12_visit_98 (by decide) ?_
  refine w_iast dX12_visit_99 kd_285 (by decide) H.1 (w_up fun I9 hI => ?_)
  replace H := H.2 I9 hI
  refine w_aload_n dX12_visit_100 rfl rfl ?_
  refine w_getR dX12_visit_101 fl_12_72 okC12 kd_261 (by decide) (by decide) rfl rf_261_41 ?_
  refine w_aload_n dX12_visit_104 rfl rfl ?_
  refine w_getI dX12_visit_105 fl_12_296 okC12 kd_261 (by decide) (by decide) rfl ?_
  refine w_iload_n dX12_visit_108 rfl rfl ?_
  refine w_iast dX12_visit_109 kd_282 (by decide) H.1 (w_up fun I10 hI => ?_)
  replace H := H.2 I10 hI
  refine w_aload_n dX12_visit_110 rfl rfl ?_
  refine w_getR dX12_visit_111 fl_12_75 okC12 kd_261 (by decide) (by decide) rfl rf_261_42 ?_
  refine w_aload_n dX12_visit_114 rfl rfl ?_
  refine w_getI dX12_visit_115 fl_12_296 okC12 kd_261 (by decide) (by decide) rfl ?_
  refine w_aload_n dX12_visit_118 rfl rfl ?_
  refine w_getI dX12_visit_119 fl_12_271 okC12 kd_261 (by decide) (by decide) rfl ?_
  refine w_iast dX12_visit_122 kd_283 (by decide) H.1 (w_up fun I11 hI => ?_)
  replace H := H.2 I11 hI
  refine w_aload_n dX12_visit_123 rfl rfl ?_
  refine w_getR dX12_visit_124 fl_12_78 okC12 kd_261 (by decide) (by decide) rfl rf_261_43 ?_
  refine w_aload_n dX12_visit_127 rfl rfl ?_
  refine w_getI dX12_visit_128 fl_12_296 okC12 kd_261 (by decide) (by decide) rfl ?_
  refine w_iload_n dX12_visit_131 rfl rfl ?_
  refine w_iast dX12_visit_132 kd_284 (by decide) H.1 (w_up fun I12 hI => ?_)
  replace H := H.2 I12 hI
  refine w_aload_n dX12_visit_133 rfl rfl ?_
  refine w_dup dX12_visit_134 rfl ?_
  refine w_getI dX12_visit_135 fl_12_296 okC12 kd_261 (by decide) (by decide) rfl ?_
  refine w_iconst (v := 1) dX12_visit_138 (by decide) ?_
  refine w_iadd dX12_visit_139 ?_
  refine w_putI dX12_visit_140 fl_12_296 okC12 kd_261 (by decide) (by decide) rfl rfl rfl (w_up fun I13 hI => ?_)
  replace H := H I13 hI
  exact w_vret dX12_visit_143 rfl ⟨rfl, H⟩
theorem dX12_visitStop_0 : decode cX12_visitStop 0 = .ok (.iconst 0, 1) := by decide +kernel
theorem dX12_visitStop_1 : decode cX12_visitStop 1 = .ok (.istore_n 2, 1) := by decide +kernel
theorem dX12_visitStop_2 : decode cX12_visitStop 2 = .ok (.iload_n 2, 1) := by decide +kernel
theorem dX12_visitStop_3 : decode cX12_visitStop 3 = .ok (.aload_n 0, 1) := by decide +kernel
theorem dX12_visitStop_4 : decode cX12_visitStop 4 = .ok (.getfield 13, 3) := by decide +kernel
theorem dX12_visitStop_7 : decode cX12_visitStop 7 = .ok (.bipush 6, 2) := by decide +kernel
theorem dX12_visitStop_9 : decode cX12_visitStop 9 = .ok (.iaload, 1) := by decide +kernel
theorem dX12_visitStop_10 : decode cX12_visitStop 10 = .ok (.if_icmp .ge 66, 3) := by decide +kernel
theorem dX12_visitStop_13 : decode cX12_visitStop 13 = .ok (.aload_n 0, 1) := by decide +kernel
theorem dX12_visitStop_14 : decode cX12_visitStop 14 = .ok (.getfield 274, 3) := by decide +kernel
theorem dX12_visitStop_17 : decode cX12_visitStop 17 = .ok (.ifCond .ne 59, 3) := by decide +kernel
theorem dX12_visitStop_20 : decode cX12_visitStop 20 = .ok (.aload_n 0, 1) := by decide +kernel
theorem dX12_visitStop_21 : decode cX12_visitStop 21 = .ok (.getfield 35, 3) := by decide +kernel
theorem dX12_visitStop_24 : decode cX12_visitStop 24 = .ok (.iload_n 2, 1) := by decide +kernel
theorem dX12_visitStop_25 : decode cX12_visitStop 25 = .ok (.iaload, 1) := by decide +kernel
theorem dX12_visitStop_26 : decode cX12_visitStop 26 = .ok (.iload_n 1, 1) := by decide +kernel
theorem dX12_visitStop_27 : decode cX12_visitStop 27 = .ok (.if_icmp .ne 43, 3) := by decide +kernel
theorem dX12_visitStop_30 : decode cX12_visitStop 30 = .ok (.aload_n 0, 1) := by decide +kernel
theorem dX12_visitStop_31 : decode cX12_visitStop 31 = .ok (.iload_n 2, 1) := by decide +kernel
theorem dX12_visitStop_32 : decode cX12_visitStop 32 = .ok (.invokevirtual 230, 3) := by decide +kernel
theorem dX12_visitStop_35 : decode cX12_visitStop 35 = .ok (.ifCond .ne 6, 3) := by decide +kernel
theorem dX12_visitStop_38 : decode cX12_visitStop 38 = .ok (.goto 32, 3) := by decide +kernel
theorem dX12_visitStop_41 : decode cX12_visitStop 41 = .ok (.aload_n 0, 1) := by decide +kernel
theorem dX12_visitStop_42 : decode cX12_visitStop 42 = .ok (.getfield 287, 3) := by decide +kernel
theorem dX12_visitStop_45 : decode cX12_visitStop 45 = .ok (.aload_n 0, 1) := by decide +kernel
theorem dX12_visitStop_46 : decode cX12_visitStop 46 = .ok (.iload_n 2, 1) := by decide +kernel
theorem dX12_visitStop_47 : decode cX12_visitStop 47 = .ok (.invokevirtual 230, 3) := by decide +kernel
theorem dX12_visitStop_50 : decode cX12_visitStop 50 = .ok (.if_icmp .ge 8, 3) := by decide +kernel
theorem dX12_visitStop_53 : decode cX12_visitStop 53 = .ok (.aload_n 0, 1) := by decide +kernel
theorem dX12_visitStop_54 : decode cX12_visitStop 54 = .ok (.iload_n 1, 1) := by decide +kernel
theorem dX12_visitStop_55 : decode cX12_visitStop 55 = .ok (.invokevirtual 299, 3) := by decide +kernel
theorem dX12_visitStop_58 : decode cX12_visitStop 58 = .ok (.aload_n 0, 1) := by decide +kernel
theorem dX12_visitStop_59 : decode cX12_visitStop 59 = .ok (.getfield 274, 3) := by decide +kernel
theorem dX12_visitStop_62 : decode cX12_visitStop 62 = .ok (.ifCond .ne 8, 3) := by decide +kernel
theorem dX12_visitStop_65 : decode cX12_visitStop 65 = .ok (.aload_n 0, 1) := by decide +kernel
theorem dX12_visitStop_66 : decode cX12_visitStop 66 = .ok (.iload_n 2, 1) := by decide +kernel
theorem dX12_visitStop_67 : decode cX12_visitStop 67 = .ok (.invokevirtual 302, 3) := by decide +kernel
theorem dX12_visitStop_70 : decode cX12_visitStop 70 = .ok (.iinc 2 1, 3) := by decide +kernel
theorem dX12_visitStop_73 : decode cX12_visitStop 73 = .ok (.goto (-71), 3) := by decide +kernel
theorem dX12_visitStop_76 : decode cX12_visitStop 76 = .ok (.return_, 1) := by decide +kernel
abbrev LX12_visitStop_2 (l1 l2 : Int32) (I : MI) (Q : MI → Prop) : Prop := WP mX12_visitStop 286 Rf0 2 [some (.ref 261), some (.int l1), some (.int l2)] [] I (qv Q)
abbrev LX12_visitStop_58 (l1 l2 : Int32) (I : MI) (Q : MI → Prop) : Prop := WP mX12_visitStop 286 Rf0 58 [some (.ref 261), some (.int l1), some (.int l2)] [] I (qv Q)
abbrev LX12_visitStop_70 (l1 l2 : Int32) (I : MI) (Q : MI → Prop) : Prop := WP mX12_visitStop 286 Rf0 70 [some (.ref 261), some (.int l1), some (.int l2)] [] I (qv Q)
set_option maxRecDepth 20000 in
theorem rX12_visitStop_2 {l1 l2 : Int32} {I : MI} {Q : MI → Prop} (H : (vp_in 6 7 ∧ ((I 263 (6 : Int32).toNatClampNeg) ≤ l2 → (Q I)) ∧ (¬ (I 263 (6 : Int32).toNatClampNeg) ≤ l2 → ((¬ (I 261 38) = 0 → (Q I)) ∧ ((I 261 38) = 0 → (vp_in l2 24 ∧ (¬ (I 270 l2.toNatClampNeg) = l1 → (LX12_visitStop_70 l1 l2 I Q)) ∧ ((I 270 l2.toNatClampNeg) = l1 → (Wi mX12_demandOf [.ref 261, .int l2] I (fun r2 I1 => ((¬ r2 = 0 → (Wi mX12_demandOf [.ref 261, .int l2] I1 (fun r4 I3 => ((r4 ≤ (I1 261 35) → (LX12_visitStop_58 l1 l2 I3 Q)) ∧ (¬ r4 ≤ (I1 261 35) → (Wv mX12_reload [.ref 261, .int l1] I3 (fun I5 => (LX12_visitStop_58 l1 l2 I5 Q)))))))) ∧ (r2 = 0 → (LX12_visitStop_70 l1 l2 I1 Q)))))))))))) : LX12_visitStop_2 l1 l2 I Q := by
  show WP mX12_visitStop 286 Rf0 2 [some (.ref 261), some (.int l1), some (.int l2)] [] I (qv Q)
  refine w_iload_n dX12_visitStop_2 rfl rfl ?_
  refine w_aload_n dX12_visitStop_3 rfl rfl ?_
  refine w_getR dX12_visitStop_4 fl_12_13 okC12 kd_261 (by decide) (by decide) rfl rf_261_10 ?_
  refine w_bipush (v := 6) dX12_visitStop_7 (by decide) ?_
  refine w_iald dX12_visitStop_9 kd_263 (by decide) H.1 ?_
  replace H := H.2
  refine w_icmp_ge (t := 76) dX12_visitStop_10 (by decide) (fun h => ?_) (fun h => ?_)
  · replace H := H.1 h
    exact w_vret dX12_visitStop_76 rfl ⟨rfl, H⟩
  · replace H := H.2 h
    refine w_aload_n dX12_visitStop_13 rfl rfl ?_
    refine w_getI dX12_visitStop_14 fl_12_274 okC12 kd_261 (by decide) (by decide) rfl ?_
    refine w_if_ne (t := 76) dX12_visitStop_17 (by decide) (fun h => ?_) (fun h => ?_)
    · replace H := H.1 h
      exact w_vret dX12_visitStop_76 rfl ⟨rfl, H⟩
    · replace H := H.2 h
      refine w_aload_n dX12_visitStop_20 rfl rfl ?_
      refine w_getR dX12_visitStop_21 fl_12_35 okC12 kd_261 (by decide) (by decide) rfl rf_261_17 ?_
      refine w_iload_n dX12_visitStop_24 rfl rfl ?_
      refine w_iald dX12_visitStop_25 kd_270 (by decide) H.1 ?_
      replace H := H.2
      refine w_iload_n dX12_visitStop_26 rfl rfl ?_
      refine w_icmp_ne (t := 70) dX12_visitStop_27 (by decide) (fun h => ?_) (fun h => ?_)
      · replace H := H.1 h
        skip
        exact H
      · replace H := H.2 h
        refine w_aload_n dX12_visitStop_30 rfl rfl ?_
        refine w_iload_n dX12_visitStop_31 rfl rfl ?_
        refine w_callV (st := []) (As := [.int l2]) dX12_visitStop_32 ml_12_230 okX12_demandOf kd_261 (by decide) rfl rfl rfl (Nat.le_of_ble_eq_true rfl) (by decide) (Nat.le_of_ble_eq_true rfl) (wc_i H (fun r2 I1 H => ?_))
        refine w_if_ne (t := 41) dX12_visitStop_35 (by decide) (fun h => ?_) (fun h => ?_)
        · replace H := H.1 h
          refine w_aload_n dX12_visitStop_41 rfl rfl ?_
          refine w_getI dX12_visitStop_42 fl_12_287 okC12 kd_261 (by decide) (by decide) rfl ?_
          refine w_aload_n dX12_visitStop_45 rfl rfl ?_
          refine w_iload_n dX12_visitStop_46 rfl rfl ?_
          refine w_callV (st := [.int (I1 261 35)]) (As := [.int l2]) dX12_visitStop_47 ml_12_230 okX12_demandOf kd_261 (by decide) rfl rfl rfl (Nat.le_of_ble_eq_true rfl) (by decide) (Nat.le_of_ble_eq_true rfl) (wc_i H (fun r4 I3 H => ?_))
          refine w_icmp_ge (t := 58) dX12_visitStop_50 (by decide) (fun h => ?_) (fun h => ?_)
          · replace H := H.1 h
            skip
            exact H
          · replace H := H.2 h
            refine w_aload_n dX12_visitStop_53 rfl rfl ?_
            refine w_iload_n dX12_visitStop_54 rfl rfl ?_
            refine w_callV (st := []) (As := [.int l1]) dX12_visitStop_55 ml_12_299 okX12_reload kd_261 (by decide) rfl rfl rfl (Nat.le_of_ble_eq_true rfl) (by decide) (Nat.le_of_ble_eq_true rfl) (wc_v H (fun I5 H => ?_))
            skip
            exact H
        · replace H := H.2 h
          refine w_goto (t := 70) dX12_visitStop_38 (by decide) ?_
          skip
          exact H
set_option maxRecDepth 20000 in
theorem rX12_visitStop_58 {l1 l2 : Int32} {I : MI} {Q : MI → Prop} (H : ((¬ (I 261 38) = 0 → (LX12_visitStop_70 l1 l2 I Q)) ∧ ((I 261 38) = 0 → (Wv mX12_visit [.ref 261, .int l2] I (fun I1 => (LX12_visitStop_70 l1 l2 I1 Q)))))) : LX12_visitStop_58 l1 l2 I Q := by
  show WP mX12_visitStop 286 Rf0 58 [some (.ref 261), some (.int l1), some (.int l2)] [] I (qv Q)
  refine w_aload_n dX12_visitStop_58 rfl rfl ?_
  refine w_getI dX12_visitStop_59 fl_12_274 okC12 kd_261 (by decide) (by decide) rfl ?_
  refine w_if_ne (t := 70) dX12_visitStop_62 (by decide) (fun h => ?_) (fun h => ?_)
  · replace H := H.1 h
    skip
    exact H
  · replace H := H.2 h
    refine w_aload_n dX12_visitStop_65 rfl rfl ?_
    refine w_iload_n dX12_visitStop_66 rfl rfl ?_
    refine w_callV (st := []) (As := [.int l2]) dX12_visitStop_67 ml_12_302 okX12_visit kd_261 (by decide) rfl rfl rfl (Nat.le_of_ble_eq_true rfl) (by decide) (Nat.le_of_ble_eq_true rfl) (wc_v H (fun I1 H => ?_))
    skip
    exact H
set_option maxRecDepth 20000 in
theorem rX12_visitStop_70 {l1 l2 : Int32} {I : MI} {Q : MI → Prop} (H : (LX12_visitStop_2 l1 (l2 + 1) I Q)) : LX12_visitStop_70 l1 l2 I Q := by
  show WP mX12_visitStop 286 Rf0 70 [some (.ref 261), some (.int l1), some (.int l2)] [] I (qv Q)
  refine w_iinc (v := l2 + 1) (ls' := [some (.ref 261), some (.int l1), some (.int (l2 + 1))]) dX12_visitStop_70 rfl rfl (by decide) rfl rfl ?_
  refine w_goto (t := 2) dX12_visitStop_73 (by decide) ?_
  skip
  exact H
set_option maxRecDepth 20000 in
theorem rX12_visitStop {a1 : Int32} {I : MI} {Q : MI → Prop} (H : (LX12_visitStop_2 a1 0 I Q)) : Wv mX12_visitStop [.ref 261, .int a1] I Q := by
  show WP mX12_visitStop 286 Rf0 0 [some (.ref 261), some (.int a1), none] [] I (qv Q)
  refine w_iconst (v := 0) dX12_visitStop_0 (by decide) ?_
  refine w_istore_n (ls' := [some (.ref 261), some (.int a1), some (.int 0)]) dX12_visitStop_1 rfl (by decide) rfl rfl ?_
  skip
  exact H
theorem dX12_leaveOut_0 : decode cX12_leaveOut 0 = .ok (.iconst 0, 1) := by decide +kernel
theorem dX12_leaveOut_1 : decode cX12_leaveOut 1 = .ok (.istore_n 2, 1) := by decide +kernel
theorem dX12_leaveOut_2 : decode cX12_leaveOut 2 = .ok (.iload_n 2, 1) := by decide +kernel
theorem dX12_leaveOut_3 : decode cX12_leaveOut 3 = .ok (.aload_n 0, 1) := by decide +kernel
theorem dX12_leaveOut_4 : decode cX12_leaveOut 4 = .ok (.getfield 13, 3) := by decide +kernel
theorem dX12_leaveOut_7 : decode cX12_leaveOut 7 = .ok (.bipush 6, 2) := by decide +kernel
theorem dX12_leaveOut_9 : decode cX12_leaveOut 9 = .ok (.iaload, 1) := by decide +kernel
theorem dX12_leaveOut_10 : decode cX12_leaveOut 10 = .ok (.if_icmp .ge 26, 3) := by decide +kernel
theorem dX12_leaveOut_13 : decode cX12_leaveOut 13 = .ok (.aload_n 0, 1) := by decide +kernel
theorem dX12_leaveOut_14 : decode cX12_leaveOut 14 = .ok (.getfield 35, 3) := by decide +kernel
theorem dX12_leaveOut_17 : decode cX12_leaveOut 17 = .ok (.iload_n 2, 1) := by decide +kernel
theorem dX12_leaveOut_18 : decode cX12_leaveOut 18 = .ok (.iaload, 1) := by decide +kernel
theorem dX12_leaveOut_19 : decode cX12_leaveOut 19 = .ok (.iload_n 1, 1) := by decide +kernel
theorem dX12_leaveOut_20 : decode cX12_leaveOut 20 = .ok (.if_icmp .ne 10, 3) := by decide +kernel
theorem dX12_leaveOut_23 : decode cX12_leaveOut 23 = .ok (.aload_n 0, 1) := by decide +kernel
theorem dX12_leaveOut_24 : decode cX12_leaveOut 24 = .ok (.getfield 81, 3) := by decide +kernel
theorem dX12_leaveOut_27 : decode cX12_leaveOut 27 = .ok (.iload_n 2, 1) := by decide +kernel
theorem dX12_leaveOut_28 : decode cX12_leaveOut 28 = .ok (.iconst 2, 1) := by decide +kernel
theorem dX12_leaveOut_29 : decode cX12_leaveOut 29 = .ok (.iastore, 1) := by decide +kernel
theorem dX12_leaveOut_30 : decode cX12_leaveOut 30 = .ok (.iinc 2 1, 3) := by decide +kernel
theorem dX12_leaveOut_33 : decode cX12_leaveOut 33 = .ok (.goto (-31), 3) := by decide +kernel
theorem dX12_leaveOut_36 : decode cX12_leaveOut 36 = .ok (.return_, 1) := by decide +kernel
abbrev LX12_leaveOut_2 (l1 l2 : Int32) (I : MI) (Q : MI → Prop) : Prop := WP mX12_leaveOut 286 Rf0 2 [some (.ref 261), some (.int l1), some (.int l2)] [] I (qv Q)
abbrev LX12_leaveOut_30 (l1 l2 : Int32) (I : MI) (Q : MI → Prop) : Prop := WP mX12_leaveOut 286 Rf0 30 [some (.ref 261), some (.int l1), some (.int l2)] [] I (qv Q)
set_option maxRecDepth 20000 in
theorem rX12_leaveOut_2 {l1 l2 : Int32} {I : MI} {Q : MI → Prop} (H : (vp_in 6 7 ∧ ((I 263 (6 : Int32).toNatClampNeg) ≤ l2 → (Q I)) ∧ (¬ (I 263 (6 : Int32).toNatClampNeg) ≤ l2 → (vp_in l2 24 ∧ (¬ (I 270 l2.toNatClampNeg) = l1 → (LX12_leaveOut_30 l1 l2 I Q)) ∧ ((I 270 l2.toNatClampNeg) = l1 → (vp_in l2 12 ∧ ∀ I1 : MI, I1 = up2 I 285 l2.toNatClampNeg 2 → LX12_leaveOut_30 l1 l2 I1 Q)))))) : LX12_leaveOut_2 l1 l2 I Q := by
  show WP mX12_leaveOut 286 Rf0 2 [some (.ref 261), some (.int l1), some (.int l2)] [] I (qv Q)
  refine w_iload_n dX12_leaveOut_2 rfl rfl ?_
  refine w_aload_n dX12_leaveOut_3 rfl rfl ?_
  refine w_getR dX12_leaveOut_4 fl_12_13 okC12 kd_261 (by decide) (by decide) rfl rf_261_10 ?_
  refine w_bipush (v := 6) dX12_leaveOut_7 (by decide) ?_
  refine w_iald dX12_leaveOut_9 kd_263 (by decide) H.1 ?_
  replace H := H.2
  refine w_icmp_ge (t := 36) dX12_leaveOut_10 (by decide) (fun h => ?_) (fun h => ?_)
  · replace H := H.1 h
    exact w_vret dX12_leaveOut_36 rfl ⟨rfl, H⟩
  · replace H := H.2 h
    refine w_aload_n dX12_leaveOut_13 rfl rfl ?_
    refine w_getR dX12_leaveOut_14 fl_12_35 okC12 kd_261 (by decide) (by decide) rfl rf_261_17 ?_
    refine w_iload_n dX12_leaveOut_17 rfl rfl ?_
    refine w_iald dX12_leaveOut_18 kd_270 (by decide) H.1 ?_
    replace H := H.2
    refine w_iload_n dX12_leaveOut_19 rfl rfl ?_
    refine w_icmp_ne (t := 30) dX12_leaveOut_20 (by decide) (fun h => ?_) (fun h => ?_)
    · replace H := H.1 h
      skip
      exact H
    · replace H := H.2 h
      refine w_aload_n dX12_leaveOut_23 rfl rfl ?_
      refine w_getR dX12_leaveOut_24 fl_12_81 okC12 kd_261 (by decide) (by decide) rfl rf_261_44 ?_
      refine w_iload_n dX12_leaveOut_27 rfl rfl ?_
      refine w_iconst (v := 2) dX12_leaveOut_28 (by decide) ?_
      refine w_iast dX12_leaveOut_29 kd_285 (by decide) H.1 (w_up fun I1 hI => ?_)
      replace H := H.2 I1 hI
      skip
      exact H
set_option maxRecDepth 20000 in
theorem rX12_leaveOut_30 {l1 l2 : Int32} {I : MI} {Q : MI → Prop} (H : (LX12_leaveOut_2 l1 (l2 + 1) I Q)) : LX12_leaveOut_30 l1 l2 I Q := by
  show WP mX12_leaveOut 286 Rf0 30 [some (.ref 261), some (.int l1), some (.int l2)] [] I (qv Q)
  refine w_iinc (v := l2 + 1) (ls' := [some (.ref 261), some (.int l1), some (.int (l2 + 1))]) dX12_leaveOut_30 rfl rfl (by decide) rfl rfl ?_
  refine w_goto (t := 2) dX12_leaveOut_33 (by decide) ?_
  skip
  exact H
set_option maxRecDepth 20000 in
theorem rX12_leaveOut {a1 : Int32} {I : MI} {Q : MI → Prop} (H : (LX12_leaveOut_2 a1 0 I Q)) : Wv mX12_leaveOut [.ref 261, .int a1] I Q := by
  show WP mX12_leaveOut 286 Rf0 0 [some (.ref 261), some (.int a1), none] [] I (qv Q)
  refine w_iconst (v := 0) dX12_leaveOut_0 (by decide) ?_
  refine w_istore_n (ls' := [some (.ref 261), some (.int a1), some (.int 0)]) dX12_leaveOut_1 rfl (by decide) rfl rfl ?_
  skip
  exact H
theorem dX12_playRound_0 : decode cX12_playRound 0 = .ok (.aload_n 0, 1) := by decide +kernel
theorem dX12_playRound_1 : decode cX12_playRound 1 = .ok (.aload_n 0, 1) := by decide +kernel
theorem dX12_playRound_2 : decode cX12_playRound 2 = .ok (.getfield 13, 3) := by decide +kernel
theorem dX12_playRound_5 : decode cX12_playRound 5 = .ok (.iconst 2, 1) := by decide +kernel
theorem dX12_playRound_6 : decode cX12_playRound 6 = .ok (.iaload, 1) := by decide +kernel
theorem dX12_playRound_7 : decode cX12_playRound 7 = .ok (.putfield 271, 3) := by decide +kernel
theorem dX12_playRound_10 : decode cX12_playRound 10 = .ok (.aload_n 0, 1) := by decide +kernel
theorem dX12_playRound_11 : decode cX12_playRound 11 = .ok (.iconst 0, 1) := by decide +kernel
theorem dX12_playRound_12 : decode cX12_playRound 12 = .ok (.putfield 278, 3) := by decide +kernel
theorem dX12_playRound_15 : decode cX12_playRound 15 = .ok (.aload_n 0, 1) := by decide +kernel
theorem dX12_playRound_16 : decode cX12_playRound 16 = .ok (.aload_n 0, 1) := by decide +kernel
theorem dX12_playRound_17 : decode cX12_playRound 17 = .ok (.invokevirtual 233, 3) := by decide +kernel
theorem dX12_playRound_20 : decode cX12_playRound 20 = .ok (.aload_n 0, 1) := by decide +kernel
theorem dX12_playRound_21 : decode cX12_playRound 21 = .ok (.getfield 13, 3) := by decide +kernel
theorem dX12_playRound_24 : decode cX12_playRound 24 = .ok (.iconst 1, 1) := by decide +kernel
theorem dX12_playRound_25 : decode cX12_playRound 25 = .ok (.iaload, 1) := by decide +kernel
theorem dX12_playRound_26 : decode cX12_playRound 26 = .ok (.invokestatic 209, 3) := by decide +kernel
theorem dX12_playRound_29 : decode cX12_playRound 29 = .ok (.putfield 287, 3) := by decide +kernel
theorem dX12_playRound_32 : decode cX12_playRound 32 = .ok (.aload_n 0, 1) := by decide +kernel
theorem dX12_playRound_33 : decode cX12_playRound 33 = .ok (.iconst 0, 1) := by decide +kernel
theorem dX12_playRound_34 : decode cX12_playRound 34 = .ok (.putfield 281, 3) := by decide +kernel
theorem dX12_playRound_37 : decode cX12_playRound 37 = .ok (.aload_n 0, 1) := by decide +kernel
theorem dX12_playRound_38 : decode cX12_playRound 38 = .ok (.iconst 0, 1) := by decide +kernel
theorem dX12_playRound_39 : decode cX12_playRound 39 = .ok (.putfield 274, 3) := by decide +kernel
theorem dX12_playRound_42 : decode cX12_playRound 42 = .ok (.aload_n 0, 1) := by decide +kernel
theorem dX12_playRound_43 : decode cX12_playRound 43 = .ok (.iconst 0, 1) := by decide +kernel
theorem dX12_playRound_44 : decode cX12_playRound 44 = .ok (.putfield 296, 3) := by decide +kernel
theorem dX12_playRound_47 : decode cX12_playRound 47 = .ok (.aload_n 0, 1) := by decide +kernel
theorem dX12_playRound_48 : decode cX12_playRound 48 = .ok (.iconst 0, 1) := by decide +kernel
theorem dX12_playRound_49 : decode cX12_playRound 49 = .ok (.putfield 290, 3) := by decide +kernel
theorem dX12_playRound_52 : decode cX12_playRound 52 = .ok (.iconst 0, 1) := by decide +kernel
theorem dX12_playRound_53 : decode cX12_playRound 53 = .ok (.istore_n 1, 1) := by decide +kernel
theorem dX12_playRound_54 : decode cX12_playRound 54 = .ok (.iload_n 1, 1) := by decide +kernel
theorem dX12_playRound_55 : decode cX12_playRound 55 = .ok (.bipush 12, 2) := by decide +kernel
theorem dX12_playRound_57 : decode cX12_playRound 57 = .ok (.if_icmp .ge 16, 3) := by decide +kernel
theorem dX12_playRound_60 : decode cX12_playRound 60 = .ok (.aload_n 0, 1) := by decide +kernel
theorem dX12_playRound_61 : decode cX12_playRound 61 = .ok (.getfield 81, 3) := by decide +kernel
theorem dX12_playRound_64 : decode cX12_playRound 64 = .ok (.iload_n 1, 1) := by decide +kernel
theorem dX12_playRound_65 : decode cX12_playRound 65 = .ok (.iconst 0, 1) := by decide +kernel
theorem dX12_playRound_66 : decode cX12_playRound 66 = .ok (.iastore, 1) := by decide +kernel
theorem dX12_playRound_67 : decode cX12_playRound 67 = .ok (.iinc 1 1, 3) := by decide +kernel
theorem dX12_playRound_70 : decode cX12_playRound 70 = .ok (.goto (-16), 3) := by decide +kernel
theorem dX12_playRound_73 : decode cX12_playRound 73 = .ok (.iconst 0, 1) := by decide +kernel
theorem dX12_playRound_74 : decode cX12_playRound 74 = .ok (.istore_n 1, 1) := by decide +kernel
theorem dX12_playRound_75 : decode cX12_playRound 75 = .ok (.iload_n 1, 1) := by decide +kernel
theorem dX12_playRound_76 : decode cX12_playRound 76 = .ok (.aload_n 0, 1) := by decide +kernel
theorem dX12_playRound_77 : decode cX12_playRound 77 = .ok (.getfield 242, 3) := by decide +kernel
theorem dX12_playRound_80 : decode cX12_playRound 80 = .ok (.if_icmp .ge 79, 3) := by decide +kernel
theorem dX12_playRound_83 : decode cX12_playRound 83 = .ok (.aload_n 0, 1) := by decide +kernel
theorem dX12_playRound_84 : decode cX12_playRound 84 = .ok (.getfield 274, 3) := by decide +kernel
theorem dX12_playRound_87 : decode cX12_playRound 87 = .ok (.ifCond .ne 72, 3) := by decide +kernel
theorem dX12_playRound_90 : decode cX12_playRound 90 = .ok (.aload_n 0, 1) := by decide +kernel
theorem dX12_playRound_91 : decode cX12_playRound 91 = .ok (.aload_n 0, 1) := by decide +kernel
theorem dX12_playRound_92 : decode cX12_playRound 92 = .ok (.getfield 278, 3) := by decide +kernel
theorem dX12_playRound_95 : decode cX12_playRound 95 = .ok (.aload_n 0, 1) := by decide +kernel
theorem dX12_playRound_96 : decode cX12_playRound 96 = .ok (.getfield 66, 3) := by decide +kernel
theorem dX12_playRound_99 : decode cX12_playRound 99 = .ok (.iload_n 1, 1) := by decide +kernel
theorem dX12_playRound_100 : decode cX12_playRound 100 = .ok (.iaload, 1) := by decide +kernel
theorem dX12_playRound_101 : decode cX12_playRound 101 = .ok (.aload_n 0, 1) := by decide +kernel
theorem dX12_playRound_102 : decode cX12_playRound 102 = .ok (.getfield 271, 3) := by decide +kernel
theorem dX12_playRound_105 : decode cX12_playRound 105 = .ok (.invokevirtual 226, 3) := by decide +kernel
theorem dX12_playRound_108 : decode cX12_playRound 108 = .ok (.istore_n 2, 1) := by decide +kernel
theorem dX12_playRound_109 : decode cX12_playRound 109 = .ok (.iload_n 2, 1) := by decide +kernel
theorem dX12_playRound_110 : decode cX12_playRound 110 = .ok (.ldc 205, 2) := by decide +kernel
theorem dX12_playRound_112 : decode cX12_playRound 112 = .ok (.if_icmp .ne 16, 3) := by decide +kernel
theorem dX12_playRound_115 : decode cX12_playRound 115 = .ok (.aload_n 0, 1) := by decide +kernel
theorem dX12_playRound_116 : decode cX12_playRound 116 = .ok (.aload_n 0, 1) := by decide +kernel
theorem dX12_playRound_117 : decode cX12_playRound 117 = .ok (.getfield 66, 3) := by decide +kernel
theorem dX12_playRound_120 : decode cX12_playRound 120 = .ok (.iload_n 1, 1) := by decide +kernel
theorem dX12_playRound_121 : decode cX12_playRound 121 = .ok (.iaload, 1) := by decide +kernel
theorem dX12_playRound_122 : decode cX12_playRound 122 = .ok (.invokevirtual 305, 3) := by decide +kernel
theorem dX12_playRound_125 : decode cX12_playRound 125 = .ok (.goto 28, 3) := by decide +kernel
theorem dX12_playRound_128 : decode cX12_playRound 128 = .ok (.aload_n 0, 1) := by decide +kernel
theorem dX12_playRound_129 : decode cX12_playRound 129 = .ok (.aload_n 0, 1) := by decide +kernel
theorem dX12_playRound_130 : decode cX12_playRound 130 = .ok (.getfield 66, 3) := by decide +kernel
theorem dX12_playRound_133 : decode cX12_playRound 133 = .ok (.iload_n 1, 1) := by decide +kernel
theorem dX12_playRound_134 : decode cX12_playRound 134 = .ok (.iaload, 1) := by decide +kernel
theorem dX12_playRound_135 : decode cX12_playRound 135 = .ok (.putfield 278, 3) := by decide +kernel
theorem dX12_playRound_138 : decode cX12_playRound 138 = .ok (.aload_n 0, 1) := by decide +kernel
theorem dX12_playRound_139 : decode cX12_playRound 139 = .ok (.iload_n 2, 1) := by decide +kernel
theorem dX12_playRound_140 : decode cX12_playRound 140 = .ok (.putfield 271, 3) := by decide +kernel
theorem dX12_playRound_143 : decode cX12_playRound 143 = .ok (.aload_n 0, 1) := by decide +kernel
theorem dX12_playRound_144 : decode cX12_playRound 144 = .ok (.aload_n 0, 1) := by decide +kernel
theorem dX12_playRound_145 : decode cX12_playRound 145 = .ok (.getfield 66, 3) := by decide +kernel
theorem dX12_playRound_148 : decode cX12_playRound 148 = .ok (.iload_n 1, 1) := by decide +kernel
theorem dX12_playRound_149 : decode cX12_playRound 149 = .ok (.iaload, 1) := by decide +kernel
theorem dX12_playRound_150 : decode cX12_playRound 150 = .ok (.invokevirtual 308, 3) := by decide +kernel
theorem dX12_playRound_153 : decode cX12_playRound 153 = .ok (.iinc 1 1, 3) := by decide +kernel
theorem dX12_playRound_156 : decode cX12_playRound 156 = .ok (.goto (-81), 3) := by decide +kernel
theorem dX12_playRound_159 : decode cX12_playRound 159 = .ok (.aload_n 0, 1) := by decide +kernel
theorem dX12_playRound_160 : decode cX12_playRound 160 = .ok (.bipush (-2), 2) := by decide +kernel
theorem dX12_playRound_162 : decode cX12_playRound 162 = .ok (.putfield 311, 3) := by decide +kernel
theorem dX12_playRound_165 : decode cX12_playRound 165 = .ok (.aload_n 0, 1) := by decide +kernel
theorem dX12_playRound_166 : decode cX12_playRound 166 = .ok (.getfield 274, 3) := by decide +kernel
theorem dX12_playRound_169 : decode cX12_playRound 169 = .ok (.ifCond .eq 19, 3) := by decide +kernel
theorem dX12_playRound_172 : decode cX12_playRound 172 = .ok (.aload_n 0, 1) := by decide +kernel
theorem dX12_playRound_173 : decode cX12_playRound 173 = .ok (.getfield 278, 3) := by decide +kernel
theorem dX12_playRound_176 : decode cX12_playRound 176 = .ok (.ifCond .ne 11, 3) := by decide +kernel
theorem dX12_playRound_179 : decode cX12_playRound 179 = .ok (.aload_n 0, 1) := by decide +kernel
theorem dX12_playRound_180 : decode cX12_playRound 180 = .ok (.aload_n 0, 1) := by decide +kernel
theorem dX12_playRound_181 : decode cX12_playRound 181 = .ok (.getfield 271, 3) := by decide +kernel
theorem dX12_playRound_184 : decode cX12_playRound 184 = .ok (.putfield 311, 3) := by decide +kernel
theorem dX12_playRound_187 : decode cX12_playRound 187 = .ok (.return_, 1) := by decide +kernel
theorem dX12_playRound_188 : decode cX12_playRound 188 = .ok (.aload_n 0, 1) := by decide +kernel
theorem dX12_playRound_189 : decode cX12_playRound 189 = .ok (.aload_n 0, 1) := by decide +kernel
theorem dX12_playRound_190 : decode cX12_playRound 190 = .ok (.getfield 278, 3) := by decide +kernel
theorem dX12_playRound_193 : decode cX12_playRound 193 = .ok (.iconst 0, 1) := by decide +kernel
theorem dX12_playRound_194 : decode cX12_playRound 194 = .ok (.aload_n 0, 1) := by decide +kernel
theorem dX12_playRound_195 : decode cX12_playRound 195 = .ok (.getfield 271, 3) := by decide +kernel
theorem dX12_playRound_198 : decode cX12_playRound 198 = .ok (.invokevirtual 226, 3) := by decide +kernel
theorem dX12_playRound_201 : decode cX12_playRound 201 = .ok (.istore_n 1, 1) := by decide +kernel
theorem dX12_playRound_202 : decode cX12_playRound 202 = .ok (.iload_n 1, 1) := by decide +kernel
theorem dX12_playRound_203 : decode cX12_playRound 203 = .ok (.ldc 205, 2) := by decide +kernel
theorem dX12_playRound_205 : decode cX12_playRound 205 = .ok (.if_icmp .ge 8, 3) := by decide +kernel
theorem dX12_playRound_208 : decode cX12_playRound 208 = .ok (.aload_n 0, 1) := by decide +kernel
theorem dX12_playRound_209 : decode cX12_playRound 209 = .ok (.iload_n 1, 1) := by decide +kernel
theorem dX12_playRound_210 : decode cX12_playRound 210 = .ok (.putfield 311, 3) := by decide +kernel
theorem dX12_playRound_213 : decode cX12_playRound 213 = .ok (.return_, 1) := by decide +kernel
abbrev LX12_playRound_54 (l1 : Int32) (I : MI) (Q : MI → Prop) : Prop := WP mX12_playRound 286 Rf0 54 [some (.ref 261), some (.int l1), none] [] I (qv Q)
abbrev LX12_playRound_75 (l1 : Int32) (I : MI) (Q : MI → Prop) : Prop := WP mX12_playRound 286 Rf0 75 [some (.ref 261), some (.int l1), none] [] I (qv Q)
abbrev LX12_playRound_153 (l1 l2 : Int32) (I : MI) (Q : MI → Prop) : Prop := WP mX12_playRound 286 Rf0 153 [some (.ref 261), some (.int l1), some (.int l2)] [] I (qv Q)
abbrev LX12_playRound_159 (l1 : Int32) (I : MI) (Q : MI → Prop) : Prop := WP mX12_playRound 286 Rf0 159 [some (.ref 261), some (.int l1), none] [] I (qv Q)
set_option maxRecDepth 20000 in
theorem rX12_playRound_54 {l1 : Int32} {I : MI} {Q : MI → Prop} (H : ((12 ≤ l1 → (LX12_playRound_75 0 I Q)) ∧ (¬ 12 ≤ l1 → (vp_in l1 12 ∧ ∀ I1 : MI, I1 = up2 I 285 l1.toNatClampNeg 0 → LX12_playRound_54 (l1 + 1) I1 Q)))) : LX12_playRound_54 l1 I Q := by
  show WP mX12_playRound 286 Rf0 54 [some (.ref 261), some (.int l1), none] [] I (qv Q)
  refine w_iload_n dX12_playRound_54 rfl rfl ?_
  refine w_bipush (v := 12) dX12_playRound_55 (by decide) ?_
  refine w_icmp_ge (t := 73) dX12_playRound_57 (by decide) (fun h => ?_) (fun h => ?_)
  · replace H := H.1 h
    refine w_iconst (v := 0) dX12_playRound_73 (by decide) ?_
    refine w_istore_n (ls' := [some (.ref 261), some (.int 0), none]) dX12_playRound_74 rfl (by decide) rfl rfl ?_
    skip
    exact H
  · replace H := H.2 h
    refine w_aload_n dX12_playRound_60 rfl rfl ?_
    refine w_getR dX12_playRound_61 fl_12_81 okC12 kd_261 (by decide) (by decide) rfl rf_261_44 ?_
    refine w_iload_n dX12_playRound_64 rfl rfl ?_
    refine w_iconst (v := 0) dX12_playRound_65 (by decide) ?_
    refine w_iast dX12_playRound_66 kd_285 (by decide) H.1 (w_up fun I1 hI => ?_)
    replace H := H.2 I1 hI
    refine w_iinc (v := l1 + 1) (ls' := [some (.ref 261), some (.int (l1 + 1)), none]) dX12_playRound_67 rfl rfl (by decide) rfl rfl ?_
    refine w_goto (t := 54) dX12_playRound_70 (by decide) ?_
    skip
    exact H
set_option maxRecDepth 20000 in
theorem rX12_playRound_75 {l1 : Int32} {I : MI} {Q : MI → Prop} (H : (((I 261 30) ≤ l1 → (LX12_playRound_159 l1 I Q)) ∧ (¬ (I 261 30) ≤ l1 → ((¬ (I 261 38) = 0 → (LX12_playRound_159 l1 I Q)) ∧ ((I 261 38) = 0 → (vp_in l1 10 ∧ Wi mX12_arrivalOf [.ref 261, .int (I 261 34), .int (I 280 l1.toNatClampNeg), .int (I 261 33)] I (fun r2 I1 => ((¬ r2 = 1000000000 → (vp_in l1 10 ∧ ∀ I3 : MI, I3 = up2 I1 261 34 (I1 280 l1.toNatClampNeg) → ∀ I4 : MI, I4 = up2 I3 261 33 r2 → vp_in l1 10 ∧ Wv mX12_visitStop [.ref 261, .int (I4 280 l1.toNatClampNeg)] I4 (fun I5 => (LX12_playRound_153 l1 r2 I5 Q)))) ∧ (r2 = 1000000000 → (vp_in l1 10 ∧ Wv mX12_leaveOut [.ref 261, .int (I1 280 l1.toNatClampNeg)] I1 (fun I3 => (LX12_playRound_153 l1 r2 I3 Q)))))))))))) : LX12_playRound_75 l1 I Q := by
  show WP mX12_playRound 286 Rf0 75 [some (.ref 261), some (.int l1), none] [] I (qv Q)
  refine w_iload_n dX12_playRound_75 rfl rfl ?_
  refine w_aload_n dX12_playRound_76 rfl rfl ?_
  refine w_getI dX12_playRound_77 fl_12_242 okC12 kd_261 (by decide) (by decide) rfl ?_
  refine w_icmp_ge (t := 159) dX12_playRound_80 (by decide) (fun h => ?_) (fun h => ?_)
  · replace H := H.1 h
    skip
    exact H
  · replace H := H.2 h
    refine w_aload_n dX12_playRound_83 rfl rfl ?_
    refine w_getI dX12_playRound_84 fl_12_274 okC12 kd_261 (by decide) (by decide) rfl ?_
    refine w_if_ne (t := 159) dX12_playRound_87 (by decide) (fun h => ?_) (fun h => ?_)
    · replace H := H.1 h
      skip
      exact H
    · replace H := H.2 h
      refine w_aload_n dX12_playRound_90 rfl rfl ?_
      refine w_aload_n dX12_playRound_91 rfl rfl ?_
      refine w_getI dX12_playRound_92 fl_12_278 okC12 kd_261 (by decide) (by decide) rfl ?_
      refine w_aload_n dX12_playRound_95 rfl rfl ?_
      refine w_getR dX12_playRound_96 fl_12_66 okC12 kd_261 (by decide) (by decide) rfl rf_261_29 ?_
      refine w_iload_n dX12_playRound_99 rfl rfl ?_
      refine w_iald dX12_playRound_100 kd_280 (by decide) H.1 ?_
      replace H := H.2
      refine w_aload_n dX12_playRound_101 rfl rfl ?_
      refine w_getI dX12_playRound_102 fl_12_271 okC12 kd_261 (by decide) (by decide) rfl ?_
      refine w_callV (st := []) (As := [.int (I 261 34), .int (I 280 l1.toNatClampNeg), .int (I 261 33)]) dX12_playRound_105 ml_12_226 okX12_arrivalOf kd_261 (by decide) rfl rfl rfl (Nat.le_of_ble_eq_true rfl) (by decide) (Nat.le_of_ble_eq_true rfl) (wc_i H (fun r2 I1 H => ?_))
      refine w_istore_n (ls' := [some (.ref 261), some (.int l1), some (.int r2)]) dX12_playRound_108 rfl (by decide) rfl rfl ?_
      refine w_iload_n dX12_playRound_109 rfl rfl ?_
      refine w_ldc (v := 1000000000) dX12_playRound_110 kl_12_205 ?_
      refine w_icmp_ne (t := 128) dX12_playRound_112 (by decide) (fun h => ?_) (fun h => ?_)
      · replace H := H.1 h
        refine w_aload_n dX12_playRound_128 rfl rfl ?_
        refine w_aload_n dX12_playRound_129 rfl rfl ?_
        refine w_getR dX12_playRound_130 fl_12_66 okC12 kd_261 (by decide) (by decide) rfl rf_261_29 ?_
        refine w_iload_n dX12_playRound_133 rfl rfl ?_
        refine w_iald dX12_playRound_134 kd_280 (by decide) H.1 ?_
        replace H := H.2
        refine w_putI dX12_playRound_135 fl_12_278 okC12 kd_261 (by decide) (by decide) rfl rfl rfl (w_up fun I3 hI => ?_)
        replace H := H I3 hI
        refine w_aload_n dX12_playRound_138 rfl rfl ?_
        refine w_iload_n dX12_playRound_139 rfl rfl ?_
        refine w_putI dX12_playRound_140 fl_12_271 okC12 kd_261 (by decide) (by decide) rfl rfl rfl (w_up fun I4 hI => ?_)
        replace H := H I4 hI
        refine w_aload_n dX12_playRound_143 rfl rfl ?_
        refine w_aload_n dX12_playRound_144 rfl rfl ?_
        refine w_getR dX12_playRound_145 fl_12_66 okC12 kd_261 (by decide) (by decide) rfl rf_261_29 ?_
        refine w_iload_n dX12_playRound_148 rfl rfl ?_
        refine w_iald dX12_playRound_149 kd_280 (by decide) H.1 ?_
        replace H := H.2
        refine w_callV (st := []) (As := [.int (I4 280 l1.toNatClampNeg)]) dX12_playRound_150 ml_12_308 okX12_visitStop kd_261 (by decide) rfl rfl rfl (Nat.le_of_ble_eq_true rfl) (by decide) (Nat.le_of_ble_eq_true rfl) (wc_v H (fun I5 H => ?_))
        skip
        exact H
      · replace H := H.2 h
        refine w_aload_n dX12_playRound_115 rfl rfl ?_
        refine w_aload_n dX12_playRound_116 rfl rfl ?_
        refine w_getR dX12_playRound_117 fl_12_66 okC12 kd_261 (by decide) (by decide) rfl rf_261_29 ?_
        refine w_iload_n dX12_playRound_120 rfl rfl ?_
        refine w_iald dX12_playRound_121 kd_280 (by decide) H.1 ?_
        replace H := H.2
        refine w_callV (st := []) (As := [.int (I1 280 l1.toNatClampNeg)]) dX12_playRound_122 ml_12_305 okX12_leaveOut kd_261 (by decide) rfl rfl rfl (Nat.le_of_ble_eq_true rfl) (by decide) (Nat.le_of_ble_eq_true rfl) (wc_v H (fun I3 H => ?_))
        refine w_goto (t := 153) dX12_playRound_125 (by decide) ?_
        skip
        exact H
set_option maxRecDepth 20000 in
theorem rX12_playRound_153 {l1 l2 : Int32} {I : MI} {Q : MI → Prop} (H : (LX12_playRound_75 (l1 + 1) I Q)) : LX12_playRound_153 l1 l2 I Q := by
  show WP mX12_playRound 286 Rf0 153 [some (.ref 261), some (.int l1), some (.int l2)] [] I (qv Q)
  refine w_iinc (v := l1 + 1) (ls' := [some (.ref 261), some (.int (l1 + 1)), some (.int l2)]) dX12_playRound_153 rfl rfl (by decide) rfl rfl ?_
  refine w_goto (t := 75) dX12_playRound_156 (by decide) ?_
  refine w_less (ls' := [some (.ref 261), some (.int (l1 + 1)), none]) (by simp [lsub]) ?_
  exact H
set_option maxRecDepth 20000 in
theorem rX12_playRound_159 {l1 : Int32} {I : MI} {Q : MI → Prop} (H : (∀ I1 : MI, I1 = up2 I 261 37 (-2) → ((I1 261 38) = 0 → (Wi mX12_arrivalOf [.ref 261, .int (I1 261 34), .int 0, .int (I1 261 33)] I1 (fun r3 I2 => ((1000000000 ≤ r3 → (Q I2)) ∧ (¬ 1000000000 ≤ r3 → (∀ I4 : MI, I4 = up2 I2 261 37 r3 → Q I4)))))) ∧ (¬ (I1 261 38) = 0 → ((¬ (I1 261 34) = 0 → (Q I1)) ∧ ((I1 261 34) = 0 → (∀ I2 : MI, I2 = up2 I1 261 37 (I1 261 33) → Q I2)))))) : LX12_playRound_159 l1 I Q := by
  show WP mX12_playRound 286 Rf0 159 [some (.ref 261), some (.int l1), none] [] I (qv Q)
  refine w_aload_n dX12_playRound_159 rfl rfl ?_
  refine w_bipush (v := (-2)) dX12_playRound_160 (by decide) ?_
  refine w_putI dX12_playRound_162 fl_12_311 okC12 kd_261 (by decide) (by decide) rfl rfl rfl (w_up fun I1 hI => ?_)
  replace H := H I1 hI
  refine w_aload_n dX12_playRound_165 rfl rfl ?_
  refine w_getI dX12_playRound_166 fl_12_274 okC12 kd_261 (by decide) (by decide) rfl ?_
  refine w_if_eq (t := 188) dX12_playRound_169 (by decide) (fun h => ?_) (fun h => ?_)
  · replace H := H.1 h
    refine w_aload_n dX12_playRound_188 rfl rfl ?_
    refine w_aload_n dX12_playRound_189 rfl rfl ?_
    refine w_getI dX12_playRound_190 fl_12_278 okC12 kd_261 (by decide) (by decide) rfl ?_
    refine w_iconst (v := 0) dX12_playRound_193 (by decide) ?_
    refine w_aload_n dX12_playRound_194 rfl rfl ?_
    refine w_getI dX12_playRound_195 fl_12_271 okC12 kd_261 (by decide) (by decide) rfl ?_
    refine w_callV (st := []) (As := [.int (I1 261 34), .int 0, .int (I1 261 33)]) dX12_playRound_198 ml_12_226 okX12_arrivalOf kd_261 (by decide) rfl rfl rfl (Nat.le_of_ble_eq_true rfl) (by decide) (Nat.le_of_ble_eq_true rfl) (wc_i H (fun r3 I2 H => ?_))
    refine w_istore_n (ls' := [some (.ref 261), some (.int r3), none]) dX12_playRound_201 rfl (by decide) rfl rfl ?_
    refine w_iload_n dX12_playRound_202 rfl rfl ?_
    refine w_ldc (v := 1000000000) dX12_playRound_203 kl_12_205 ?_
    refine w_icmp_ge (t := 213) dX12_playRound_205 (by decide) (fun h => ?_) (fun h => ?_)
    · replace H := H.1 h
      exact w_vret dX12_playRound_213 rfl ⟨rfl, H⟩
    · replace H := H.2 h
      refine w_aload_n dX12_playRound_208 rfl rfl ?_
      refine w_iload_n dX12_playRound_209 rfl rfl ?_
      refine w_putI dX12_playRound_210 fl_12_311 okC12 kd_261 (by decide) (by decide) rfl rfl rfl (w_up fun I4 hI => ?_)
      replace H := H I4 hI
      exact w_vret dX12_playRound_213 rfl ⟨rfl, H⟩
  · replace H := H.2 h
    refine w_aload_n dX12_playRound_172 rfl rfl ?_
    refine w_getI dX12_playRound_173 fl_12_278 okC12 kd_261 (by decide) (by decide) rfl ?_
    refine w_if_ne (t := 187) dX12_playRound_176 (by decide) (fun h => ?_) (fun h => ?_)
    · replace H := H.1 h
      exact w_vret dX12_playRound_187 rfl ⟨rfl, H⟩
    · replace H := H.2 h
      refine w_aload_n dX12_playRound_179 rfl rfl ?_
      refine w_aload_n dX12_playRound_180 rfl rfl ?_
      refine w_getI dX12_playRound_181 fl_12_271 okC12 kd_261 (by decide) (by decide) rfl ?_
      refine w_putI dX12_playRound_184 fl_12_311 okC12 kd_261 (by decide) (by decide) rfl rfl rfl (w_up fun I2 hI => ?_)
      replace H := H I2 hI
      exact w_vret dX12_playRound_187 rfl ⟨rfl, H⟩
set_option maxRecDepth 20000 in
theorem rX12_playRound {I : MI} {Q : MI → Prop} (H : (vp_in 2 7 ∧ ∀ I1 : MI, I1 = up2 I 261 33 (I 263 (2 : Int32).toNatClampNeg) → ∀ I2 : MI, I2 = up2 I1 261 34 0 → Wi mX12_totalOf [.ref 261] I2 (fun r4 I3 => (vp_in 1 7 ∧ ∀ x5 : Int32, x5 = (if (I3 263 (1 : Int32).toNatClampNeg) < r4 then (I3 263 (1 : Int32).toNatClampNeg) else r4) → ∀ I6 : MI, I6 = up2 I3 261 35 x5 → ∀ I7 : MI, I7 = up2 I6 261 36 0 → ∀ I8 : MI, I8 = up2 I7 261 38 0 → ∀ I9 : MI, I9 = up2 I8 261 39 0 → ∀ I10 : MI, I10 = up2 I9 261 40 0 → LX12_playRound_54 0 I10 Q)))) : Wv mX12_playRound [.ref 261] I Q := by
  show WP mX12_playRound 286 Rf0 0 [some (.ref 261), none, none] [] I (qv Q)
  refine w_aload_n dX12_playRound_0 rfl rfl ?_
  refine w_aload_n dX12_playRound_1 rfl rfl ?_
  refine w_getR dX12_playRound_2 fl_12_13 okC12 kd_261 (by decide) (by decide) rfl rf_261_10 ?_
  refine w_iconst (v := 2) dX12_playRound_5 (by decide) ?_
  refine w_iald dX12_playRound_6 kd_263 (by decide) H.1 ?_
  replace H := H.2
  refine w_putI dX12_playRound_7 fl_12_271 okC12 kd_261 (by decide) (by decide) rfl rfl rfl (w_up fun I1 hI => ?_)
  replace H := H I1 hI
  refine w_aload_n dX12_playRound_10 rfl rfl ?_
  refine w_iconst (v := 0) dX12_playRound_11 (by decide) ?_
  refine w_putI dX12_playRound_12 fl_12_278 okC12 kd_261 (by decide) (by decide) rfl rfl rfl (w_up fun I2 hI => ?_)
  replace H := H I2 hI
  refine w_aload_n dX12_playRound_15 rfl rfl ?_
  refine w_aload_n dX12_playRound_16 rfl rfl ?_
  refine w_callV (st := [.ref 261]) (As := []) dX12_playRound_17 ml_12_233 okX12_totalOf kd_261 (by decide) rfl rfl rfl (Nat.le_of_ble_eq_true rfl) (by decide) (Nat.le_of_ble_eq_true rfl) (wc_i H (fun r4 I3 H => ?_))
  refine w_aload_n dX12_playRound_20 rfl rfl ?_
  refine w_getR dX12_playRound_21 fl_12_13 okC12 kd_261 (by decide) (by decide) rfl rf_261_10 ?_
  refine w_iconst (v := 1) dX12_playRound_24 (by decide) ?_
  refine w_iald dX12_playRound_25 kd_263 (by decide) H.1 ?_
  replace H := H.2
  refine w_min dX12_playRound_26 ml_12_209 minS maI minC (by decide) (Nat.le_of_ble_eq_true rfl) ?_
  refine w_top fun x5 hx => ?_
  replace H := H x5 hx
  refine w_putI dX12_playRound_29 fl_12_287 okC12 kd_261 (by decide) (by decide) rfl rfl rfl (w_up fun I6 hI => ?_)
  replace H := H I6 hI
  refine w_aload_n dX12_playRound_32 rfl rfl ?_
  refine w_iconst (v := 0) dX12_playRound_33 (by decide) ?_
  refine w_putI dX12_playRound_34 fl_12_281 okC12 kd_261 (by decide) (by decide) rfl rfl rfl (w_up fun I7 hI => ?_)
  replace H := H I7 hI
  refine w_aload_n dX12_playRound_37 rfl rfl ?_
  refine w_iconst (v := 0) dX12_playRound_38 (by decide) ?_
  refine w_putZ dX12_playRound_39 fl_12_274 okC12 kd_261 (by decide) (by decide) rfl rfl rfl (by decide) (w_up fun I8 hI => ?_)
  replace H := H I8 hI
  refine w_aload_n dX12_playRound_42 rfl rfl ?_
  refine w_iconst (v := 0) dX12_playRound_43 (by decide) ?_
  refine w_putI dX12_playRound_44 fl_12_296 okC12 kd_261 (by decide) (by decide) rfl rfl rfl (w_up fun I9 hI => ?_)
  replace H := H I9 hI
  refine w_aload_n dX12_playRound_47 rfl rfl ?_
  refine w_iconst (v := 0) dX12_playRound_48 (by decide) ?_
  refine w_putI dX12_playRound_49 fl_12_290 okC12 kd_261 (by decide) (by decide) rfl rfl rfl (w_up fun I10 hI => ?_)
  replace H := H I10 hI
  refine w_iconst (v := 0) dX12_playRound_52 (by decide) ?_
  refine w_istore_n (ls' := [some (.ref 261), some (.int 0), none]) dX12_playRound_53 rfl (by decide) rfl rfl ?_
  skip
  exact H
theorem dX12_previewFinish_0 : decode cX12_previewFinish 0 = .ok (.aload_n 0, 1) := by decide +kernel
theorem dX12_previewFinish_1 : decode cX12_previewFinish 1 = .ok (.iconst 0, 1) := by decide +kernel
theorem dX12_previewFinish_2 : decode cX12_previewFinish 2 = .ok (.putfield 87, 3) := by decide +kernel
theorem dX12_previewFinish_5 : decode cX12_previewFinish 5 = .ok (.iload_n 1, 1) := by decide +kernel
theorem dX12_previewFinish_6 : decode cX12_previewFinish 6 = .ok (.i2l, 1) := by decide +kernel
theorem dX12_previewFinish_7 : decode cX12_previewFinish 7 = .ok (.lconst 0, 1) := by decide +kernel
theorem dX12_previewFinish_8 : decode cX12_previewFinish 8 = .ok (.ldc2_w 314, 3) := by decide +kernel
theorem dX12_previewFinish_11 : decode cX12_previewFinish 11 = .ok (.invokestatic 118, 3) := by decide +kernel
theorem dX12_previewFinish_14 : decode cX12_previewFinish 14 = .ok (.ifCond .ne 5, 3) := by decide +kernel
theorem dX12_previewFinish_17 : decode cX12_previewFinish 17 = .ok (.iconst (-1), 1) := by decide +kernel
theorem dX12_previewFinish_18 : decode cX12_previewFinish 18 = .ok (.ireturn, 1) := by decide +kernel
theorem dX12_previewFinish_19 : decode cX12_previewFinish 19 = .ok (.aload_n 0, 1) := by decide +kernel
theorem dX12_previewFinish_20 : decode cX12_previewFinish 20 = .ok (.iload_n 1, 1) := by decide +kernel
theorem dX12_previewFinish_21 : decode cX12_previewFinish 21 = .ok (.invokevirtual 316, 3) := by decide +kernel
theorem dX12_previewFinish_24 : decode cX12_previewFinish 24 = .ok (.ifCond .ne 6, 3) := by decide +kernel
theorem dX12_previewFinish_27 : decode cX12_previewFinish 27 = .ok (.bipush (-2), 2) := by decide +kernel
theorem dX12_previewFinish_29 : decode cX12_previewFinish 29 = .ok (.ireturn, 1) := by decide +kernel
theorem dX12_previewFinish_30 : decode cX12_previewFinish 30 = .ok (.aload_n 0, 1) := by decide +kernel
theorem dX12_previewFinish_31 : decode cX12_previewFinish 31 = .ok (.invokevirtual 319, 3) := by decide +kernel
theorem dX12_previewFinish_34 : decode cX12_previewFinish 34 = .ok (.aload_n 0, 1) := by decide +kernel
theorem dX12_previewFinish_35 : decode cX12_previewFinish 35 = .ok (.getfield 311, 3) := by decide +kernel
theorem dX12_previewFinish_38 : decode cX12_previewFinish 38 = .ok (.ireturn, 1) := by decide +kernel
set_option maxRecDepth 20000 in
theorem rX12_previewFinish {a1 : Int32} {I : MI} {Q : Int32 → MI → Prop} (H : (∀ I1 : MI, I1 = up2 I 261 0 0 → Wi mX12_within [.long a1.toInt64, .long 0, .long 2] I1 (fun r3 I2 => ((¬ r3 = 0 → (Wi mX12_layOrder [.ref 261, .int a1] I2 (fun r5 I4 => ((¬ r5 = 0 → (Wv mX12_playRound [.ref 261] I4 (fun I6 => (Q (I6 261 37) I6)))) ∧ (r5 = 0 → (Q (-2) I4)))))) ∧ (r3 = 0 → (Q (-1) I2)))))) : Wi mX12_previewFinish [.ref 261, .int a1] I Q := by
  show WP mX12_previewFinish 286 Rf0 0 [some (.ref 261), some (.int a1)] [] I (qi Q)
  refine w_aload_n dX12_previewFinish_0 rfl rfl ?_
  refine w_iconst (v := 0) dX12_previewFinish_1 (by decide) ?_
  refine w_putI dX12_previewFinish_2 fl_12_87 okC12 kd_261 (by decide) (by decide) rfl rfl rfl (w_up fun I1 hI => ?_)
  replace H := H I1 hI
  refine w_iload_n dX12_previewFinish_5 rfl rfl ?_
  refine w_i2l dX12_previewFinish_6 ?_
  refine w_lconst (v := 0) dX12_previewFinish_7 (by decide) ?_
  refine w_ldc2 (v := 2) dX12_previewFinish_8 kl_12_314 ?_
  refine w_callS (st := []) (As := [.long a1.toInt64, .long 0, .long 2]) dX12_previewFinish_11 ml_12_118 okX12_within rfl (Nat.le_of_ble_eq_true rfl) (by decide) (Nat.le_of_ble_eq_true rfl) (wc_i H (fun r3 I2 H => ?_))
  refine w_if_ne (t := 19) dX12_previewFinish_14 (by decide) (fun h => ?_) (fun h => ?_)
  · replace H := H.1 h
    refine w_aload_n dX12_previewFinish_19 rfl rfl ?_
    refine w_iload_n dX12_previewFinish_20 rfl rfl ?_
    refine w_callV (st := []) (As := [.int a1]) dX12_previewFinish_21 ml_12_316 okX12_layOrder kd_261 (by decide) rfl rfl rfl (Nat.le_of_ble_eq_true rfl) (by decide) (Nat.le_of_ble_eq_true rfl) (wc_i H (fun r5 I4 H => ?_))
    refine w_if_ne (t := 30) dX12_previewFinish_24 (by decide) (fun h => ?_) (fun h => ?_)
    · replace H := H.1 h
      refine w_aload_n dX12_previewFinish_30 rfl rfl ?_
      refine w_callV (st := []) (As := []) dX12_previewFinish_31 ml_12_319 okX12_playRound kd_261 (by decide) rfl rfl rfl (Nat.le_of_ble_eq_true rfl) (by decide) (Nat.le_of_ble_eq_true rfl) (wc_v H (fun I6 H => ?_))
      refine w_aload_n dX12_previewFinish_34 rfl rfl ?_
      refine w_getI dX12_previewFinish_35 fl_12_311 okC12 kd_261 (by decide) (by decide) rfl ?_
      exact w_iret dX12_previewFinish_38 rfl ⟨_, rfl, H⟩
    · replace H := H.2 h
      refine w_bipush (v := (-2)) dX12_previewFinish_27 (by decide) ?_
      exact w_iret dX12_previewFinish_29 rfl ⟨_, rfl, H⟩
  · replace H := H.2 h
    refine w_iconst (v := (-1)) dX12_previewFinish_17 (by decide) ?_
    exact w_iret dX12_previewFinish_18 rfl ⟨_, rfl, H⟩
theorem dX12_learn_0 : decode cX12_learn 0 = .ok (.aload_n 0, 1) := by decide +kernel
theorem dX12_learn_1 : decode cX12_learn 1 = .ok (.getfield 47, 3) := by decide +kernel
theorem dX12_learn_4 : decode cX12_learn 4 = .ok (.sipush 193, 3) := by decide +kernel
theorem dX12_learn_7 : decode cX12_learn 7 = .ok (.bipush 10, 2) := by decide +kernel
theorem dX12_learn_9 : decode cX12_learn 9 = .ok (.iload_n 1, 1) := by decide +kernel
theorem dX12_learn_10 : decode cX12_learn 10 = .ok (.imul, 1) := by decide +kernel
theorem dX12_learn_11 : decode cX12_learn 11 = .ok (.iadd, 1) := by decide +kernel
theorem dX12_learn_12 : decode cX12_learn 12 = .ok (.iload_n 2, 1) := by decide +kernel
theorem dX12_learn_13 : decode cX12_learn 13 = .ok (.iadd, 1) := by decide +kernel
theorem dX12_learn_14 : decode cX12_learn 14 = .ok (.dup2, 1) := by decide +kernel
theorem dX12_learn_15 : decode cX12_learn 15 = .ok (.iaload, 1) := by decide +kernel
theorem dX12_learn_16 : decode cX12_learn 16 = .ok (.iconst 1, 1) := by decide +kernel
theorem dX12_learn_17 : decode cX12_learn 17 = .ok (.iadd, 1) := by decide +kernel
theorem dX12_learn_18 : decode cX12_learn 18 = .ok (.iastore, 1) := by decide +kernel
theorem dX12_learn_19 : decode cX12_learn 19 = .ok (.return_, 1) := by decide +kernel
set_option maxRecDepth 20000 in
theorem rX12_learn {a1 a2 : Int32} {I : MI} {Q : MI → Prop} (H : (vp_in ((193 + (10 * a1)) + a2) 332 ∧ vp_in ((193 + (10 * a1)) + a2) 332 ∧ ∀ I1 : MI, I1 = up2 I 274 ((193 + (10 * a1)) + a2).toNatClampNeg ((I 274 ((193 + (10 * a1)) + a2).toNatClampNeg) + 1) → Q I1)) : Wv mX12_learn [.ref 261, .int a1, .int a2] I Q := by
  show WP mX12_learn 286 Rf0 0 [some (.ref 261), some (.int a1), some (.int a2)] [] I (qv Q)
  refine w_aload_n dX12_learn_0 rfl rfl ?_
  refine w_getR dX12_learn_1 fl_12_47 okC12 kd_261 (by decide) (by decide) rfl rf_261_22 ?_
  refine w_sipush (v := 193) dX12_learn_4 (by decide) ?_
  refine w_bipush (v := 10) dX12_learn_7 (by decide) ?_
  refine w_iload_n dX12_learn_9 rfl rfl ?_
  refine w_imul dX12_learn_10 ?_
  refine w_iadd dX12_learn_11 ?_
  refine w_iload_n dX12_learn_12 rfl rfl ?_
  refine w_iadd dX12_learn_13 ?_
  refine w_dup2 dX12_learn_14 rfl rfl ?_
  refine w_iald dX12_learn_15 kd_274 (by decide) H.1 ?_
  replace H := H.2
  refine w_iconst (v := 1) dX12_learn_16 (by decide) ?_
  refine w_iadd dX12_learn_17 ?_
  refine w_iast dX12_learn_18 kd_274 (by decide) H.1 (w_up fun I1 hI => ?_)
  replace H := H.2 I1 hI
  exact w_vret dX12_learn_19 rfl ⟨rfl, H⟩
theorem dX12_carryOut_0 : decode cX12_carryOut 0 = .ok (.aload_n 0, 1) := by decide +kernel
theorem dX12_carryOut_1 : decode cX12_carryOut 1 = .ok (.iconst 0, 1) := by decide +kernel
theorem dX12_carryOut_2 : decode cX12_carryOut 2 = .ok (.putfield 87, 3) := by decide +kernel
theorem dX12_carryOut_5 : decode cX12_carryOut 5 = .ok (.iload_n 1, 1) := by decide +kernel
theorem dX12_carryOut_6 : decode cX12_carryOut 6 = .ok (.i2l, 1) := by decide +kernel
theorem dX12_carryOut_7 : decode cX12_carryOut 7 = .ok (.lconst 0, 1) := by decide +kernel
theorem dX12_carryOut_8 : decode cX12_carryOut 8 = .ok (.ldc2_w 314, 3) := by decide +kernel
theorem dX12_carryOut_11 : decode cX12_carryOut 11 = .ok (.invokestatic 118, 3) := by decide +kernel
theorem dX12_carryOut_14 : decode cX12_carryOut 14 = .ok (.ifCond .ne 5, 3) := by decide +kernel
theorem dX12_carryOut_17 : decode cX12_carryOut 17 = .ok (.iconst (-1), 1) := by decide +kernel
theorem dX12_carryOut_18 : decode cX12_carryOut 18 = .ok (.ireturn, 1) := by decide +kernel
theorem dX12_carryOut_19 : decode cX12_carryOut 19 = .ok (.aload_n 0, 1) := by decide +kernel
theorem dX12_carryOut_20 : decode cX12_carryOut 20 = .ok (.iload_n 1, 1) := by decide +kernel
theorem dX12_carryOut_21 : decode cX12_carryOut 21 = .ok (.invokevirtual 316, 3) := by decide +kernel
theorem dX12_carryOut_24 : decode cX12_carryOut 24 = .ok (.ifCond .ne 6, 3) := by decide +kernel
theorem dX12_carryOut_27 : decode cX12_carryOut 27 = .ok (.bipush (-2), 2) := by decide +kernel
theorem dX12_carryOut_29 : decode cX12_carryOut 29 = .ok (.ireturn, 1) := by decide +kernel
theorem dX12_carryOut_30 : decode cX12_carryOut 30 = .ok (.aload_n 0, 1) := by decide +kernel
theorem dX12_carryOut_31 : decode cX12_carryOut 31 = .ok (.invokevirtual 322, 3) := by decide +kernel
theorem dX12_carryOut_34 : decode cX12_carryOut 34 = .ok (.aload_n 0, 1) := by decide +kernel
theorem dX12_carryOut_35 : decode cX12_carryOut 35 = .ok (.invokevirtual 319, 3) := by decide +kernel
theorem dX12_carryOut_38 : decode cX12_carryOut 38 = .ok (.iconst 0, 1) := by decide +kernel
theorem dX12_carryOut_39 : decode cX12_carryOut 39 = .ok (.istore_n 2, 1) := by decide +kernel
theorem dX12_carryOut_40 : decode cX12_carryOut 40 = .ok (.iconst 0, 1) := by decide +kernel
theorem dX12_carryOut_41 : decode cX12_carryOut 41 = .ok (.istore_n 3, 1) := by decide +kernel
theorem dX12_carryOut_42 : decode cX12_carryOut 42 = .ok (.iload_n 3, 1) := by decide +kernel
theorem dX12_carryOut_43 : decode cX12_carryOut 43 = .ok (.aload_n 0, 1) := by decide +kernel
theorem dX12_carryOut_44 : decode cX12_carryOut 44 = .ok (.getfield 296, 3) := by decide +kernel
theorem dX12_carryOut_47 : decode cX12_carryOut 47 = .ok (.if_icmp .ge 159, 3) := by decide +kernel
theorem dX12_carryOut_50 : decode cX12_carryOut 50 = .ok (.aload_n 0, 1) := by decide +kernel
theorem dX12_carryOut_51 : decode cX12_carryOut 51 = .ok (.getfield 72, 3) := by decide +kernel
theorem dX12_carryOut_54 : decode cX12_carryOut 54 = .ok (.iload_n 3, 1) := by decide +kernel
theorem dX12_carryOut_55 : decode cX12_carryOut 55 = .ok (.iaload, 1) := by decide +kernel
theorem dX12_carryOut_56 : decode cX12_carryOut 56 = .ok (.istore 4, 2) := by decide +kernel
theorem dX12_carryOut_58 : decode cX12_carryOut 58 = .ok (.aload_n 0, 1) := by decide +kernel
theorem dX12_carryOut_59 : decode cX12_carryOut 59 = .ok (.getfield 47, 3) := by decide +kernel
theorem dX12_carryOut_62 : decode cX12_carryOut 62 = .ok (.sipush 145, 3) := by decide +kernel
theorem dX12_carryOut_65 : decode cX12_carryOut 65 = .ok (.iload 4, 2) := by decide +kernel
theorem dX12_carryOut_67 : decode cX12_carryOut 67 = .ok (.iadd, 1) := by decide +kernel
theorem dX12_carryOut_68 : decode cX12_carryOut 68 = .ok (.dup2, 1) := by decide +kernel
theorem dX12_carryOut_69 : decode cX12_carryOut 69 = .ok (.iaload, 1) := by decide +kernel
theorem dX12_carryOut_70 : decode cX12_carryOut 70 = .ok (.aload_n 0, 1) := by decide +kernel
theorem dX12_carryOut_71 : decode cX12_carryOut 71 = .ok (.iload 4, 2) := by decide +kernel
theorem dX12_carryOut_73 : decode cX12_carryOut 73 = .ok (.invokevirtual 230, 3) := by decide +kernel
theorem dX12_carryOut_76 : decode cX12_carryOut 76 = .ok (.aload_n 0, 1) := by decide +kernel
theorem dX12_carryOut_77 : decode cX12_carryOut 77 = .ok (.getfield 78, 3) := by decide +kernel
theorem dX12_carryOut_80 : decode cX12_carryOut 80 = .ok (.iload_n 3, 1) := by decide +kernel
theorem dX12_carryOut_81 : decode cX12_carryOut 81 = .ok (.iaload, 1) := by decide +kernel
theorem dX12_carryOut_82 : decode cX12_carryOut 82 = .ok (.isub, 1) := by decide +kernel
theorem dX12_carryOut_83 : decode cX12_carryOut 83 = .ok (.iadd, 1) := by decide +kernel
theorem dX12_carryOut_84 : decode cX12_carryOut 84 = .ok (.iastore, 1) := by decide +kernel
theorem dX12_carryOut_85 : decode cX12_carryOut 85 = .ok (.aload_n 0, 1) := by decide +kernel
theorem dX12_carryOut_86 : decode cX12_carryOut 86 = .ok (.getfield 47, 3) := by decide +kernel
theorem dX12_carryOut_89 : decode cX12_carryOut 89 = .ok (.sipush 157, 3) := by decide +kernel
theorem dX12_carryOut_92 : decode cX12_carryOut 92 = .ok (.iload 4, 2) := by decide +kernel
theorem dX12_carryOut_94 : decode cX12_carryOut 94 = .ok (.iadd, 1) := by decide +kernel
theorem dX12_carryOut_95 : decode cX12_carryOut 95 = .ok (.dup2, 1) := by decide +kernel
theorem dX12_carryOut_96 : decode cX12_carryOut 96 = .ok (.iaload, 1) := by decide +kernel
theorem dX12_carryOut_97 : decode cX12_carryOut 97 = .ok (.aload_n 0, 1) := by decide +kernel
theorem dX12_carryOut_98 : decode cX12_carryOut 98 = .ok (.iload 4, 2) := by decide +kernel
theorem dX12_carryOut_100 : decode cX12_carryOut 100 = .ok (.invokevirtual 230, 3) := by decide +kernel
theorem dX12_carryOut_103 : decode cX12_carryOut 103 = .ok (.iadd, 1) := by decide +kernel
theorem dX12_carryOut_104 : decode cX12_carryOut 104 = .ok (.iastore, 1) := by decide +kernel
theorem dX12_carryOut_105 : decode cX12_carryOut 105 = .ok (.aload_n 0, 1) := by decide +kernel
theorem dX12_carryOut_106 : decode cX12_carryOut 106 = .ok (.getfield 47, 3) := by decide +kernel
theorem dX12_carryOut_109 : decode cX12_carryOut 109 = .ok (.sipush 169, 3) := by decide +kernel
theorem dX12_carryOut_112 : decode cX12_carryOut 112 = .ok (.iload 4, 2) := by decide +kernel
theorem dX12_carryOut_114 : decode cX12_carryOut 114 = .ok (.iadd, 1) := by decide +kernel
theorem dX12_carryOut_115 : decode cX12_carryOut 115 = .ok (.dup2, 1) := by decide +kernel
theorem dX12_carryOut_116 : decode cX12_carryOut 116 = .ok (.iaload, 1) := by decide +kernel
theorem dX12_carryOut_117 : decode cX12_carryOut 117 = .ok (.aload_n 0, 1) := by decide +kernel
theorem dX12_carryOut_118 : decode cX12_carryOut 118 = .ok (.getfield 78, 3) := by decide +kernel
theorem dX12_carryOut_121 : decode cX12_carryOut 121 = .ok (.iload_n 3, 1) := by decide +kernel
theorem dX12_carryOut_122 : decode cX12_carryOut 122 = .ok (.iaload, 1) := by decide +kernel
theorem dX12_carryOut_123 : decode cX12_carryOut 123 = .ok (.iadd, 1) := by decide +kernel
theorem dX12_carryOut_124 : decode cX12_carryOut 124 = .ok (.iastore, 1) := by decide +kernel
theorem dX12_carryOut_125 : decode cX12_carryOut 125 = .ok (.aload_n 0, 1) := by decide +kernel
theorem dX12_carryOut_126 : decode cX12_carryOut 126 = .ok (.getfield 47, 3) := by decide +kernel
theorem dX12_carryOut_129 : decode cX12_carryOut 129 = .ok (.sipush 296, 3) := by decide +kernel
theorem dX12_carryOut_132 : decode cX12_carryOut 132 = .ok (.iload_n 3, 1) := by decide +kernel
theorem dX12_carryOut_133 : decode cX12_carryOut 133 = .ok (.iadd, 1) := by decide +kernel
theorem dX12_carryOut_134 : decode cX12_carryOut 134 = .ok (.iload 4, 2) := by decide +kernel
theorem dX12_carryOut_136 : decode cX12_carryOut 136 = .ok (.iastore, 1) := by decide +kernel
theorem dX12_carryOut_137 : decode cX12_carryOut 137 = .ok (.aload_n 0, 1) := by decide +kernel
theorem dX12_carryOut_138 : decode cX12_carryOut 138 = .ok (.getfield 47, 3) := by decide +kernel
theorem dX12_carryOut_141 : decode cX12_carryOut 141 = .ok (.sipush 308, 3) := by decide +kernel
theorem dX12_carryOut_144 : decode cX12_carryOut 144 = .ok (.iload_n 3, 1) := by decide +kernel
theorem dX12_carryOut_145 : decode cX12_carryOut 145 = .ok (.iadd, 1) := by decide +kernel
theorem dX12_carryOut_146 : decode cX12_carryOut 146 = .ok (.aload_n 0, 1) := by decide +kernel
theorem dX12_carryOut_147 : decode cX12_carryOut 147 = .ok (.getfield 75, 3) := by decide +kernel
theorem dX12_carryOut_150 : decode cX12_carryOut 150 = .ok (.iload_n 3, 1) := by decide +kernel
theorem dX12_carryOut_151 : decode cX12_carryOut 151 = .ok (.iaload, 1) := by decide +kernel
theorem dX12_carryOut_152 : decode cX12_carryOut 152 = .ok (.iastore, 1) := by decide +kernel
theorem dX12_carryOut_153 : decode cX12_carryOut 153 = .ok (.aload_n 0, 1) := by decide +kernel
theorem dX12_carryOut_154 : decode cX12_carryOut 154 = .ok (.getfield 47, 3) := by decide +kernel
theorem dX12_carryOut_157 : decode cX12_carryOut 157 = .ok (.sipush 320, 3) := by decide +kernel
theorem dX12_carryOut_160 : decode cX12_carryOut 160 = .ok (.iload_n 3, 1) := by decide +kernel
theorem dX12_carryOut_161 : decode cX12_carryOut 161 = .ok (.iadd, 1) := by decide +kernel
theorem dX12_carryOut_162 : decode cX12_carryOut 162 = .ok (.aload_n 0, 1) := by decide +kernel
theorem dX12_carryOut_163 : decode cX12_carryOut 163 = .ok (.getfield 78, 3) := by decide +kernel
theorem dX12_carryOut_166 : decode cX12_carryOut 166 = .ok (.iload_n 3, 1) := by decide +kernel
theorem dX12_carryOut_167 : decode cX12_carryOut 167 = .ok (.iaload, 1) := by decide +kernel
theorem dX12_carryOut_168 : decode cX12_carryOut 168 = .ok (.iastore, 1) := by decide +kernel
theorem dX12_carryOut_169 : decode cX12_carryOut 169 = .ok (.aload_n 0, 1) := by decide +kernel
theorem dX12_carryOut_170 : decode cX12_carryOut 170 = .ok (.getfield 35, 3) := by decide +kernel
theorem dX12_carryOut_173 : decode cX12_carryOut 173 = .ok (.iload 4, 2) := by decide +kernel
theorem dX12_carryOut_175 : decode cX12_carryOut 175 = .ok (.iaload, 1) := by decide +kernel
theorem dX12_carryOut_176 : decode cX12_carryOut 176 = .ok (.iload_n 2, 1) := by decide +kernel
theorem dX12_carryOut_177 : decode cX12_carryOut 177 = .ok (.if_icmp .eq 15, 3) := by decide +kernel
theorem dX12_carryOut_180 : decode cX12_carryOut 180 = .ok (.aload_n 0, 1) := by decide +kernel
theorem dX12_carryOut_181 : decode cX12_carryOut 181 = .ok (.iload_n 2, 1) := by decide +kernel
theorem dX12_carryOut_182 : decode cX12_carryOut 182 = .ok (.aload_n 0, 1) := by decide +kernel
theorem dX12_carryOut_183 : decode cX12_carryOut 183 = .ok (.getfield 35, 3) := by decide +kernel
theorem dX12_carryOut_186 : decode cX12_carryOut 186 = .ok (.iload 4, 2) := by decide +kernel
theorem dX12_carryOut_188 : decode cX12_carryOut 188 = .ok (.iaload, 1) := by decide +kernel
theorem dX12_carryOut_189 : decode cX12_carryOut 189 = .ok (.invokevirtual 325, 3) := by decide +kernel
theorem dX12_carryOut_192 : decode cX12_carryOut 192 = .ok (.aload_n 0, 1) := by decide +kernel
theorem dX12_carryOut_193 : decode cX12_carryOut 193 = .ok (.getfield 35, 3) := by decide +kernel
theorem dX12_carryOut_196 : decode cX12_carryOut 196 = .ok (.iload 4, 2) := by decide +kernel
theorem dX12_carryOut_198 : decode cX12_carryOut 198 = .ok (.iaload, 1) := by decide +kernel
theorem dX12_carryOut_199 : decode cX12_carryOut 199 = .ok (.istore_n 2, 1) := by decide +kernel
theorem dX12_carryOut_200 : decode cX12_carryOut 200 = .ok (.iinc 3 1, 3) := by decide +kernel
theorem dX12_carryOut_203 : decode cX12_carryOut 203 = .ok (.goto (-161), 3) := by decide +kernel
theorem dX12_carryOut_206 : decode cX12_carryOut 206 = .ok (.aload_n 0, 1) := by decide +kernel
theorem dX12_carryOut_207 : decode cX12_carryOut 207 = .ok (.getfield 311, 3) := by decide +kernel
theorem dX12_carryOut_210 : decode cX12_carryOut 210 = .ok (.bipush (-2), 2) := by decide +kernel
theorem dX12_carryOut_212 : decode cX12_carryOut 212 = .ok (.if_icmp .eq 13, 3) := by decide +kernel
theorem dX12_carryOut_215 : decode cX12_carryOut 215 = .ok (.iload_n 2, 1) := by decide +kernel
theorem dX12_carryOut_216 : decode cX12_carryOut 216 = .ok (.ifCond .eq 9, 3) := by decide +kernel
theorem dX12_carryOut_219 : decode cX12_carryOut 219 = .ok (.aload_n 0, 1) := by decide +kernel
theorem dX12_carryOut_220 : decode cX12_carryOut 220 = .ok (.iload_n 2, 1) := by decide +kernel
theorem dX12_carryOut_221 : decode cX12_carryOut 221 = .ok (.iconst 0, 1) := by decide +kernel
theorem dX12_carryOut_222 : decode cX12_carryOut 222 = .ok (.invokevirtual 325, 3) := by decide +kernel
theorem dX12_carryOut_225 : decode cX12_carryOut 225 = .ok (.aload_n 0, 1) := by decide +kernel
theorem dX12_carryOut_226 : decode cX12_carryOut 226 = .ok (.getfield 47, 3) := by decide +kernel
theorem dX12_carryOut_229 : decode cX12_carryOut 229 = .ok (.sipush 293, 3) := by decide +kernel
theorem dX12_carryOut_232 : decode cX12_carryOut 232 = .ok (.aload_n 0, 1) := by decide +kernel
theorem dX12_carryOut_233 : decode cX12_carryOut 233 = .ok (.getfield 311, 3) := by decide +kernel
theorem dX12_carryOut_236 : decode cX12_carryOut 236 = .ok (.iastore, 1) := by decide +kernel
theorem dX12_carryOut_237 : decode cX12_carryOut 237 = .ok (.aload_n 0, 1) := by decide +kernel
theorem dX12_carryOut_238 : decode cX12_carryOut 238 = .ok (.getfield 47, 3) := by decide +kernel
theorem dX12_carryOut_241 : decode cX12_carryOut 241 = .ok (.sipush 294, 3) := by decide +kernel
theorem dX12_carryOut_244 : decode cX12_carryOut 244 = .ok (.aload_n 0, 1) := by decide +kernel
theorem dX12_carryOut_245 : decode cX12_carryOut 245 = .ok (.getfield 296, 3) := by decide +kernel
theorem dX12_carryOut_248 : decode cX12_carryOut 248 = .ok (.iastore, 1) := by decide +kernel
theorem dX12_carryOut_249 : decode cX12_carryOut 249 = .ok (.aload_n 0, 1) := by decide +kernel
theorem dX12_carryOut_250 : decode cX12_carryOut 250 = .ok (.getfield 47, 3) := by decide +kernel
theorem dX12_carryOut_253 : decode cX12_carryOut 253 = .ok (.sipush 295, 3) := by decide +kernel
theorem dX12_carryOut_256 : decode cX12_carryOut 256 = .ok (.aload_n 0, 1) := by decide +kernel
theorem dX12_carryOut_257 : decode cX12_carryOut 257 = .ok (.getfield 290, 3) := by decide +kernel
theorem dX12_carryOut_260 : decode cX12_carryOut 260 = .ok (.iastore, 1) := by decide +kernel
theorem dX12_carryOut_261 : decode cX12_carryOut 261 = .ok (.aload_n 0, 1) := by decide +kernel
theorem dX12_carryOut_262 : decode cX12_carryOut 262 = .ok (.getfield 47, 3) := by decide +kernel
theorem dX12_carryOut_265 : decode cX12_carryOut 265 = .ok (.iconst 0, 1) := by decide +kernel
theorem dX12_carryOut_266 : decode cX12_carryOut 266 = .ok (.dup2, 1) := by decide +kernel
theorem dX12_carryOut_267 : decode cX12_carryOut 267 = .ok (.iaload, 1) := by decide +kernel
theorem dX12_carryOut_268 : decode cX12_carryOut 268 = .ok (.iconst 1, 1) := by decide +kernel
theorem dX12_carryOut_269 : decode cX12_carryOut 269 = .ok (.iadd, 1) := by decide +kernel
theorem dX12_carryOut_270 : decode cX12_carryOut 270 = .ok (.iastore, 1) := by decide +kernel
theorem dX12_carryOut_271 : decode cX12_carryOut 271 = .ok (.iconst 0, 1) := by decide +kernel
theorem dX12_carryOut_272 : decode cX12_carryOut 272 = .ok (.istore_n 3, 1) := by decide +kernel
theorem dX12_carryOut_273 : decode cX12_carryOut 273 = .ok (.iload_n 3, 1) := by decide +kernel
theorem dX12_carryOut_274 : decode cX12_carryOut 274 = .ok (.bipush 12, 2) := by decide +kernel
theorem dX12_carryOut_276 : decode cX12_carryOut 276 = .ok (.if_icmp .ge 20, 3) := by decide +kernel
theorem dX12_carryOut_279 : decode cX12_carryOut 279 = .ok (.aload_n 0, 1) := by decide +kernel
theorem dX12_carryOut_280 : decode cX12_carryOut 280 = .ok (.getfield 47, 3) := by decide +kernel
theorem dX12_carryOut_283 : decode cX12_carryOut 283 = .ok (.sipush 133, 3) := by decide +kernel
theorem dX12_carryOut_286 : decode cX12_carryOut 286 = .ok (.iload_n 3, 1) := by decide +kernel
theorem dX12_carryOut_287 : decode cX12_carryOut 287 = .ok (.iadd, 1) := by decide +kernel
theorem dX12_carryOut_288 : decode cX12_carryOut 288 = .ok (.iconst 0, 1) := by decide +kernel
theorem dX12_carryOut_289 : decode cX12_carryOut 289 = .ok (.iastore, 1) := by decide +kernel
theorem dX12_carryOut_290 : decode cX12_carryOut 290 = .ok (.iinc 3 1, 3) := by decide +kernel
theorem dX12_carryOut_293 : decode cX12_carryOut 293 = .ok (.goto (-20), 3) := by decide +kernel
theorem dX12_carryOut_296 : decode cX12_carryOut 296 = .ok (.aload_n 0, 1) := by decide +kernel
theorem dX12_carryOut_297 : decode cX12_carryOut 297 = .ok (.getfield 296, 3) := by decide +kernel
theorem dX12_carryOut_300 : decode cX12_carryOut 300 = .ok (.ireturn, 1) := by decide +kernel
abbrev LX12_carryOut_42 (l1 l2 l3 : Int32) (I : MI) (Q : Int32 → MI → Prop) : Prop := WP mX12_carryOut 286 Rf0 42 [some (.ref 261), some (.int l1), some (.int l2), some (.int l3), none] [] I (qi Q)
abbrev LX12_carryOut_192 (l1 l2 l3 l4 : Int32) (I : MI) (Q : Int32 → MI → Prop) : Prop := WP mX12_carryOut 286 Rf0 192 [some (.ref 261), some (.int l1), some (.int l2), some (.int l3), some (.int l4)] [] I (qi Q)
abbrev LX12_carryOut_225 (l1 l2 l3 : Int32) (I : MI) (Q : Int32 → MI → Prop) : Prop := WP mX12_carryOut 286 Rf0 225 [some (.ref 261), some (.int l1), some (.int l2), some (.int l3), none] [] I (qi Q)
abbrev LX12_carryOut_273 (l1 l2 l3 : Int32) (I : MI) (Q : Int32 → MI → Prop) : Prop := WP mX12_carryOut 286 Rf0 273 [some (.ref 261), some (.int l1), some (.int l2), some (.int l3), none] [] I (qi Q)
set_option maxRecDepth 20000 in
theorem rX12_carryOut_42 {l1 l2 l3 : Int32} {I : MI} {Q : Int32 → MI → Prop} (H : (((I 261 39) ≤ l3 → (((I 261 37) = (-2) → (LX12_carryOut_225 l1 l2 l3 I Q)) ∧ (¬ (I 261 37) = (-2) → ((l2 = 0 → (LX12_carryOut_225 l1 l2 l3 I Q)) ∧ (¬ l2 = 0 → (Wv mX12_learn [.ref 261, .int l2, .int 0] I (fun I1 => (LX12_carryOut_225 l1 l2 l3 I1 Q)))))))) ∧ (¬ (I 261 39) ≤ l3 → (vp_in l3 12 ∧ vp_in (145 + (I 282 l3.toNatClampNeg)) 332 ∧ Wi mX12_demandOf [.ref 261, .int (I 282 l3.toNatClampNeg)] I (fun r2 I1 => (vp_in l3 12 ∧ vp_in (145 + (I 282 l3.toNatClampNeg)) 332 ∧ ∀ I3 : MI, I3 = up2 I1 274 (145 + (I 282 l3.toNatClampNeg)).toNatClampNeg ((I 274 (145 + (I 282 l3.toNatClampNeg)).toNatClampNeg) + (r2 - (I1 284 l3.toNatClampNeg))) → vp_in (157 + (I 282 l3.toNatClampNeg)) 332 ∧ Wi mX12_demandOf [.ref 261, .int (I 282 l3.toNatClampNeg)] I3 (fun r5 I4 => (vp_in (157 + (I 282 l3.toNatClampNeg)) 332 ∧ ∀ I6 : MI, I6 = up2 I4 274 (157 + (I 282 l3.toNatClampNeg)).toNatClampNeg ((I3 274 (157 + (I 282 l3.toNatClampNeg)).toNatClampNeg) + r5) → vp_in (169 + (I 282 l3.toNatClampNeg)) 332 ∧ vp_in l3 12 ∧ vp_in (169 + (I 282 l3.toNatClampNeg)) 332 ∧ ∀ I7 : MI, I7 = up2 I6 274 (169 + (I 282 l3.toNatClampNeg)).toNatClampNeg ((I6 274 (169 + (I 282 l3.toNatClampNeg)).toNatClampNeg) + (I6 284 l3.toNatClampNeg)) → vp_in (296 + l3) 332 ∧ ∀ I8 : MI, I8 = up2 I7 274 (296 + l3).toNatClampNeg (I 282 l3.toNatClampNeg) → vp_in l3 12 ∧ vp_in (308 + l3) 332 ∧ ∀ I9 : MI, I9 = up2 I8 274 (308 + l3).toNatClampNeg (I8 283 l3.toNatClampNeg) → vp_in l3 12 ∧ vp_in (320 + l3) 332 ∧ ∀ I10 : MI, I10 = up2 I9 274 (320 + l3).toNatClampNeg (I9 284 l3.toNatClampNeg) → vp_in (I 282 l3.toNatClampNeg) 24 ∧ ((I10 270 (I 282 l3.toNatClampNeg).toNatClampNeg) = l2 → (LX12_carryOut_192 l1 l2 l3 (I 282 l3.toNatClampNeg) I10 Q)) ∧ (¬ (I10 270 (I 282 l3.toNatClampNeg).toNatClampNeg) = l2 → (vp_in (I 282 l3.toNatClampNeg) 24 ∧ Wv mX12_learn [.ref 261, .int l2, .int (I10 270 (I 282 l3.toNatClampNeg).toNatClampNeg)] I10 (fun I11 => (LX12_carryOut_192 l1 l2 l3 (I 282 l3.toNatClampNeg) I11 Q)))))))))))) : LX12_carryOut_42 l1 l2 l3 I Q := by
  show WP mX12_carryOut 286 Rf0 42 [some (.ref 261), some (.int l1), some (.int l2), some (.int l3), none] [] I (qi Q)
  refine w_iload_n dX12_carryOut_42 rfl rfl ?_
  refine w_aload_n dX12_carryOut_43 rfl rfl ?_
  refine w_getI dX12_carryOut_44 fl_12_296 okC12 kd_261 (by decide) (by decide) rfl ?_
  refine w_icmp_ge (t := 206) dX12_carryOut_47 (by decide) (fun h => ?_) (fun h => ?_)
  · replace H := H.1 h
    refine w_aload_n dX12_carryOut_206 rfl rfl ?_
    refine w_getI dX12_carryOut_207 fl_12_311 okC12 kd_261 (by decide) (by decide) rfl ?_
    refine w_bipush (v := (-2)) dX12_carryOut_210 (by decide) ?_
    refine w_icmp_eq (t := 225) dX12_carryOut_212 (by decide) (fun h => ?_) (fun h => ?_)
    · replace H := H.1 h
      skip
      exact H
    · replace H := H.2 h
      refine w_iload_n dX12_carryOut_215 rfl rfl ?_
      refine w_if_eq (t := 225) dX12_carryOut_216 (by decide) (fun h => ?_) (fun h => ?_)
      · replace H := H.1 h
        skip
        exact H
      · replace H := H.2 h
        refine w_aload_n dX12_carryOut_219 rfl rfl ?_
        refine w_iload_n dX12_carryOut_220 rfl rfl ?_
        refine w_iconst (v := 0) dX12_carryOut_221 (by decide) ?_
        refine w_callV (st := []) (As := [.int l2, .int 0]) dX12_carryOut_222 ml_12_325 okX12_learn kd_261 (by decide) rfl rfl rfl (Nat.le_of_ble_eq_true rfl) (by decide) (Nat.le_of_ble_eq_true rfl) (wc_v H (fun I1 H => ?_))
        skip
        exact H
  · replace H := H.2 h
    refine w_aload_n dX12_carryOut_50 rfl rfl ?_
    refine w_getR dX12_carryOut_51 fl_12_72 okC12 kd_261 (by decide) (by decide) rfl rf_261_41 ?_
    refine w_iload_n dX12_carryOut_54 rfl rfl ?_
    refine w_iald dX12_carryOut_55 kd_282 (by decide) H.1 ?_
    replace H := H.2
    refine w_istore (ls' := [some (.ref 261), some (.int l1), some (.int l2), some (.int l3), some (.int (I 282 l3.toNatClampNeg))]) dX12_carryOut_56 (by decide) rfl rfl ?_
    refine w_aload_n dX12_carryOut_58 rfl rfl ?_
    refine w_getR dX12_carryOut_59 fl_12_47 okC12 kd_261 (by decide) (by decide) rfl rf_261_22 ?_
    refine w_sipush (v := 145) dX12_carryOut_62 (by decide) ?_
    refine w_iload dX12_carryOut_65 rfl ?_
    refine w_iadd dX12_carryOut_67 ?_
    refine w_dup2 dX12_carryOut_68 rfl rfl ?_
    refine w_iald dX12_carryOut_69 kd_274 (by decide) H.1 ?_
    replace H := H.2
    refine w_aload_n dX12_carryOut_70 rfl rfl ?_
    refine w_iload dX12_carryOut_71 rfl ?_
    refine w_callV (st := [.int (I 274 (145 + (I 282 l3.toNatClampNeg)).toNatClampNeg), .int (145 + (I 282 l3.toNatClampNeg)), .ref 274]) (As := [.int (I 282 l3.toNatClampNeg)]) dX12_carryOut_73 ml_12_230 okX12_demandOf kd_261 (by decide) rfl rfl rfl (Nat.le_of_ble_eq_true rfl) (by decide) (Nat.le_of_ble_eq_true rfl) (wc_i H (fun r2 I1 H => ?_))
    refine w_aload_n dX12_carryOut_76 rfl rfl ?_
    refine w_getR dX12_carryOut_77 fl_12_78 okC12 kd_261 (by decide) (by decide) rfl rf_261_43 ?_
    refine w_iload_n dX12_carryOut_80 rfl rfl ?_
    refine w_iald dX12_carryOut_81 kd_284 (by decide) H.1 ?_
    replace H := H.2
    refine w_isub dX12_carryOut_82 ?_
    refine w_iadd dX12_carryOut_83 ?_
    refine w_iast dX12_carryOut_84 kd_274 (by decide) H.1 (w_up fun I3 hI => ?_)
    replace H := H.2 I3 hI
    refine w_aload_n dX12_carryOut_85 rfl rfl ?_
    refine w_getR dX12_carryOut_86 fl_12_47 okC12 kd_261 (by decide) (by decide) rfl rf_261_22 ?_
    refine w_sipush (v := 157) dX12_carryOut_89 (by decide) ?_
    refine w_iload dX12_carryOut_92 rfl ?_
    refine w_iadd dX12_carryOut_94 ?_
    refine w_dup2 dX12_carryOut_95 rfl rfl ?_
    refine w_iald dX12_carryOut_96 kd_274 (by decide) H.1 ?_
    replace H := H.2
    refine w_aload_n dX12_carryOut_97 rfl rfl ?_
    refine w_iload dX12_carryOut_98 rfl ?_
    refine w_callV (st := [.int (I3 274 (157 + (I 282 l3.toNatClampNeg)).toNatClampNeg), .int (157 + (I 282 l3.toNatClampNeg)), .ref 274]) (As := [.int (I 282 l3.toNatClampNeg)]) dX12_carryOut_100 ml_12_230 okX12_demandOf kd_261 (by decide) rfl rfl rfl (Nat.le_of_ble_eq_true rfl) (by decide) (Nat.le_of_ble_eq_true rfl) (wc_i H (fun r5 I4 H => ?_))
    refine w_iadd dX12_carryOut_103 ?_
    refine w_iast dX12_carryOut_104 kd_274 (by decide) H.1 (w_up fun I6 hI => ?_)
    replace H := H.2 I6 hI
    refine w_aload_n dX12_carryOut_105 rfl rfl ?_
    refine w_getR dX12_carryOut_106 fl_12_47 okC12 kd_261 (by decide) (by decide) rfl rf_261_22 ?_
    refine w_sipush (v := 169) dX12_carryOut_109 (by decide) ?_
    refine w_iload dX12_carryOut_112 rfl ?_
    refine w_iadd dX12_carryOut_114 ?_
    refine w_dup2 dX12_carryOut_115 rfl rfl ?_
    refine w_iald dX12_carryOut_116 kd_274 (by decide) H.1 ?_
    replace H := H.2
    refine w_aload_n dX12_carryOut_117 rfl rfl ?_
    refine w_getR dX12_carryOut_118 fl_12_78 okC12 kd_261 (by decide) (by decide) rfl rf_261_43 ?_
    refine w_iload_n dX12_carryOut_121 rfl rfl ?_
    refine w_iald dX12_carryOut_122 kd_284 (by decide) H.1 ?_
    replace H := H.2
    refine w_iadd dX12_carryOut_123 ?_
    refine w_iast dX12_carryOut_124 kd_274 (by decide) H.1 (w_up fun I7 hI => ?_)
    replace H := H.2 I7 hI
    refine w_aload_n dX12_carryOut_125 rfl rfl ?_
    refine w_getR dX12_carryOut_126 fl_12_47 okC12 kd_261 (by decide) (by decide) rfl rf_261_22 ?_
    refine w_sipush (v := 296) dX12_carryOut_129 (by decide) ?_
    refine w_iload_n dX12_carryOut_132 rfl rfl ?_
    refine w_iadd dX12_carryOut_133 ?_
    refine w_iload dX12_carryOut_134 rfl ?_
    refine w_iast dX12_carryOut_136 kd_274 (by decide) H.1 (w_up fun I8 hI => ?_)
    replace H := H.2 I8 hI
    refine w_aload_n dX12_carryOut_137 rfl rfl ?_
    refine w_getR dX12_carryOut_138 fl_12_47 okC12 kd_261 (by decide) (by decide) rfl rf_261_22 ?_
    refine w_sipush (v := 308) dX12_carryOut_141 (by decide) ?_
    refine w_iload_n dX12_carryOut_144 rfl rfl ?_
    refine w_iadd dX12_carryOut_145 ?_
    refine w_aload_n dX12_carryOut_146 rfl rfl ?_
    refine w_getR dX12_carryOut_147 fl_12_75 okC12 kd_261 (by decide) (by decide) rfl rf_261_42 ?_
    refine w_iload_n dX12_carryOut_150 rfl rfl ?_
    refine w_iald dX12_carryOut_151 kd_283 (by decide) H.1 ?_
    replace H := H.2
    refine w_iast dX12_carryOut_152 kd_274 (by decide) H.1 (w_up fun I9 hI => ?_)
    replace H := H.2 I9 hI
    refine w_aload_n dX12_carryOut_153 rfl rfl ?_
    refine w_getR dX12_carryOut_154 fl_12_47 okC12 kd_261 (by decide) (by decide) rfl rf_261_22 ?_
    refine w_sipush (v := 320) dX12_carryOut_157 (by decide) ?_
    refine w_iload_n dX12_carryOut_160 rfl rfl ?_
    refine w_iadd dX12_carryOut_161 ?_
    refine w_aload_n dX12_carryOut_162 rfl rfl ?_
    refine w_getR dX12_carryOut_163 fl_12_78 okC12 kd_261 (by decide) (by decide) rfl rf_261_43 ?_
    refine w_iload_n dX12_carryOut_166 rfl rfl ?_
    refine w_iald dX12_carryOut_167 kd_284 (by decide) H.1 ?_
    replace H := H.2
    refine w_iast dX12_carryOut_168 kd_274 (by decide) H.1 (w_up fun I10 hI => ?_)
    replace H := H.2 I10 hI
    refine w_aload_n dX12_carryOut_169 rfl rfl ?_
    refine w_getR dX12_carryOut_170 fl_12_35 okC12 kd_261 (by decide) (by decide) rfl rf_261_17 ?_
    refine w_iload dX12_carryOut_173 rfl ?_
    refine w_iald dX12_carryOut_175 kd_270 (by decide) H.1 ?_
    replace H := H.2
    refine w_iload_n dX12_carryOut_176 rfl rfl ?_
    refine w_icmp_eq (t := 192) dX12_carryOut_177 (by decide) (fun h => ?_) (fun h => ?_)
    · replace H := H.1 h
      skip
      exact H
    · replace H := H.2 h
      refine w_aload_n dX12_carryOut_180 rfl rfl ?_
      refine w_iload_n dX12_carryOut_181 rfl rfl ?_
      refine w_aload_n dX12_carryOut_182 rfl rfl ?_
      refine w_getR dX12_carryOut_183 fl_12_35 okC12 kd_261 (by decide) (by decide) rfl rf_261_17 ?_
      refine w_iload dX12_carryOut_186 rfl ?_
      refine w_iald dX12_carryOut_188 kd_270 (by decide) H.1 ?_
      replace H := H.2
      refine w_callV (st := []) (As := [.int l2, .int (I10 270 (I 282 l3.toNatClampNeg).toNatClampNeg)]) dX12_carryOut_189 ml_12_325 okX12_learn kd_261 (by decide) rfl rfl rfl (Nat.le_of_ble_eq_true rfl) (by decide) (Nat.le_of_ble_eq_true rfl) (wc_v H (fun I11 H => ?_))
      skip
      exact H
set_option maxRecDepth 20000 in
theorem rX12_carryOut_192 {l1 l2 l3 l4 : Int32} {I : MI} {Q : Int32 → MI → Prop} (H : (vp_in l4 24 ∧ LX12_carryOut_42 l1 (I 270 l4.toNatClampNeg) (l3 + 1) I Q)) : LX12_carryOut_192 l1 l2 l3 l4 I Q := by
  show WP mX12_carryOut 286 Rf0 192 [some (.ref 261), some (.int l1), some (.int l2), some (.int l3), some (.int l4)] [] I (qi Q)
  refine w_aload_n dX12_carryOut_192 rfl rfl ?_
  refine w_getR dX12_carryOut_193 fl_12_35 okC12 kd_261 (by decide) (by decide) rfl rf_261_17 ?_
  refine w_iload dX12_carryOut_196 rfl ?_
  refine w_iald dX12_carryOut_198 kd_270 (by decide) H.1 ?_
  replace H := H.2
  refine w_istore_n (ls' := [some (.ref 261), some (.int l1), some (.int (I 270 l4.toNatClampNeg)), some (.int l3), some (.int l4)]) dX12_carryOut_199 rfl (by decide) rfl rfl ?_
  refine w_iinc (v := l3 + 1) (ls' := [some (.ref 261), some (.int l1), some (.int (I 270 l4.toNatClampNeg)), some (.int (l3 + 1)), some (.int l4)]) dX12_carryOut_200 rfl rfl (by decide) rfl rfl ?_
  refine w_goto (t := 42) dX12_carryOut_203 (by decide) ?_
  refine w_less (ls' := [some (.ref 261), some (.int l1), some (.int (I 270 l4.toNatClampNeg)), some (.int (l3 + 1)), none]) (by simp [lsub]) ?_
  exact H
set_option maxRecDepth 20000 in
theorem rX12_carryOut_225 {l1 l2 l3 : Int32} {I : MI} {Q : Int32 → MI → Prop} (H : (vp_in 293 332 ∧ ∀ I1 : MI, I1 = up2 I 274 (293 : Int32).toNatClampNeg (I 261 37) → vp_in 294 332 ∧ ∀ I2 : MI, I2 = up2 I1 274 (294 : Int32).toNatClampNeg (I1 261 39) → vp_in 295 332 ∧ ∀ I3 : MI, I3 = up2 I2 274 (295 : Int32).toNatClampNeg (I2 261 40) → vp_in 0 332 ∧ vp_in 0 332 ∧ ∀ I4 : MI, I4 = up2 I3 274 (0 : Int32).toNatClampNeg ((I3 274 (0 : Int32).toNatClampNeg) + 1) → LX12_carryOut_273 l1 l2 0 I4 Q)) : LX12_carryOut_225 l1 l2 l3 I Q := by
  show WP mX12_carryOut 286 Rf0 225 [some (.ref 261), some (.int l1), some (.int l2), some (.int l3), none] [] I (qi Q)
  refine w_aload_n dX12_carryOut_225 rfl rfl ?_
  refine w_getR dX12_carryOut_226 fl_12_47 okC12 kd_261 (by decide) (by decide) rfl rf_261_22 ?_
  refine w_sipush (v := 293) dX12_carryOut_229 (by decide) ?_
  refine w_aload_n dX12_carryOut_232 rfl rfl ?_
  refine w_getI dX12_carryOut_233 fl_12_311 okC12 kd_261 (by decide) (by decide) rfl ?_
  refine w_iast dX12_carryOut_236 kd_274 (by decide) H.1 (w_up fun I1 hI => ?_)
  replace H := H.2 I1 hI
  refine w_aload_n dX12_carryOut_237 rfl rfl ?_
  refine w_getR dX12_carryOut_238 fl_12_47 okC12 kd_261 (by decide) (by decide) rfl rf_261_22 ?_
  refine w_sipush (v := 294) dX12_carryOut_241 (by decide) ?_
  refine w_aload_n dX12_carryOut_244 rfl rfl ?_
  refine w_getI dX12_carryOut_245 fl_12_296 okC12 kd_261 (by decide) (by decide) rfl ?_
  refine w_iast dX12_carryOut_248 kd_274 (by decide) H.1 (w_up fun I2 hI => ?_)
  replace H := H.2 I2 hI
  refine w_aload_n dX12_carryOut_249 rfl rfl ?_
  refine w_getR dX12_carryOut_250 fl_12_47 okC12 kd_261 (by decide) (by decide) rfl rf_261_22 ?_
  refine w_sipush (v := 295) dX12_carryOut_253 (by decide) ?_
  refine w_aload_n dX12_carryOut_256 rfl rfl ?_
  refine w_getI dX12_carryOut_257 fl_12_290 okC12 kd_261 (by decide) (by decide) rfl ?_
  refine w_iast dX12_carryOut_260 kd_274 (by decide) H.1 (w_up fun I3 hI => ?_)
  replace H := H.2 I3 hI
  refine w_aload_n dX12_carryOut_261 rfl rfl ?_
  refine w_getR dX12_carryOut_262 fl_12_47 okC12 kd_261 (by decide) (by decide) rfl rf_261_22 ?_
  refine w_iconst (v := 0) dX12_carryOut_265 (by decide) ?_
  refine w_dup2 dX12_carryOut_266 rfl rfl ?_
  refine w_iald dX12_carryOut_267 kd_274 (by decide) H.1 ?_
  replace H := H.2
  refine w_iconst (v := 1) dX12_carryOut_268 (by decide) ?_
  refine w_iadd dX12_carryOut_269 ?_
  refine w_iast dX12_carryOut_270 kd_274 (by decide) H.1 (w_up fun I4 hI => ?_)
  replace H := H.2 I4 hI
  refine w_iconst (v := 0) dX12_carryOut_271 (by decide) ?_
  refine w_istore_n (ls' := [some (.ref 261), some (.int l1), some (.int l2), some (.int 0), none]) dX12_carryOut_272 rfl (by decide) rfl rfl ?_
  skip
  exact H
set_option maxRecDepth 20000 in
theorem rX12_carryOut_273 {l1 l2 l3 : Int32} {I : MI} {Q : Int32 → MI → Prop} (H : ((12 ≤ l3 → (Q (I 261 39) I)) ∧ (¬ 12 ≤ l3 → (vp_in (133 + l3) 332 ∧ ∀ I1 : MI, I1 = up2 I 274 (133 + l3).toNatClampNeg 0 → LX12_carryOut_273 l1 l2 (l3 + 1) I1 Q)))) : LX12_carryOut_273 l1 l2 l3 I Q := by
  show WP mX12_carryOut 286 Rf0 273 [some (.ref 261), some (.int l1), some (.int l2), some (.int l3), none] [] I (qi Q)
  refine w_iload_n dX12_carryOut_273 rfl rfl ?_
  refine w_bipush (v := 12) dX12_carryOut_274 (by decide) ?_
  refine w_icmp_ge (t := 296) dX12_carryOut_276 (by decide) (fun h => ?_) (fun h => ?_)
  · replace H := H.1 h
    refine w_aload_n dX12_carryOut_296 rfl rfl ?_
    refine w_getI dX12_carryOut_297 fl_12_296 okC12 kd_261 (by decide) (by decide) rfl ?_
    exact w_iret dX12_carryOut_300 rfl ⟨_, rfl, H⟩
  · replace H := H.2 h
    refine w_aload_n dX12_carryOut_279 rfl rfl ?_
    refine w_getR dX12_carryOut_280 fl_12_47 okC12 kd_261 (by decide) (by decide) rfl rf_261_22 ?_
    refine w_sipush (v := 133) dX12_carryOut_283 (by decide) ?_
    refine w_iload_n dX12_carryOut_286 rfl rfl ?_
    refine w_iadd dX12_carryOut_287 ?_
    refine w_iconst (v := 0) dX12_carryOut_288 (by decide) ?_
    refine w_iast dX12_carryOut_289 kd_274 (by decide) H.1 (w_up fun I1 hI => ?_)
    replace H := H.2 I1 hI
    refine w_iinc (v := l3 + 1) (ls' := [some (.ref 261), some (.int l1), some (.int l2), some (.int (l3 + 1)), none]) dX12_carryOut_290 rfl rfl (by decide) rfl rfl ?_
    refine w_goto (t := 273) dX12_carryOut_293 (by decide) ?_
    skip
    exact H
set_option maxRecDepth 20000 in
theorem rX12_carryOut {a1 : Int32} {I : MI} {Q : Int32 → MI → Prop} (H : (∀ I1 : MI, I1 = up2 I 261 0 0 → Wi mX12_within [.long a1.toInt64, .long 0, .long 2] I1 (fun r3 I2 => ((¬ r3 = 0 → (Wi mX12_layOrder [.ref 261, .int a1] I2 (fun r5 I4 => ((¬ r5 = 0 → (Wv mX12_keepState [.ref 261] I4 (fun I6 => (Wv mX12_playRound [.ref 261] I6 (fun I7 => (LX12_carryOut_42 a1 0 0 I7 Q)))))) ∧ (r5 = 0 → (Q (-2) I4)))))) ∧ (r3 = 0 → (Q (-1) I2)))))) : Wi mX12_carryOut [.ref 261, .int a1] I Q := by
  show WP mX12_carryOut 286 Rf0 0 [some (.ref 261), some (.int a1), none, none, none] [] I (qi Q)
  refine w_aload_n dX12_carryOut_0 rfl rfl ?_
  refine w_iconst (v := 0) dX12_carryOut_1 (by decide) ?_
  refine w_putI dX12_carryOut_2 fl_12_87 okC12 kd_261 (by decide) (by decide) rfl rfl rfl (w_up fun I1 hI => ?_)
  replace H := H I1 hI
  refine w_iload_n dX12_carryOut_5 rfl rfl ?_
  refine w_i2l dX12_carryOut_6 ?_
  refine w_lconst (v := 0) dX12_carryOut_7 (by decide) ?_
  refine w_ldc2 (v := 2) dX12_carryOut_8 kl_12_314 ?_
  refine w_callS (st := []) (As := [.long a1.toInt64, .long 0, .long 2]) dX12_carryOut_11 ml_12_118 okX12_within rfl (Nat.le_of_ble_eq_true rfl) (by decide) (Nat.le_of_ble_eq_true rfl) (wc_i H (fun r3 I2 H => ?_))
  refine w_if_ne (t := 19) dX12_carryOut_14 (by decide) (fun h => ?_) (fun h => ?_)
  · replace H := H.1 h
    refine w_aload_n dX12_carryOut_19 rfl rfl ?_
    refine w_iload_n dX12_carryOut_20 rfl rfl ?_
    refine w_callV (st := []) (As := [.int a1]) dX12_carryOut_21 ml_12_316 okX12_layOrder kd_261 (by decide) rfl rfl rfl (Nat.le_of_ble_eq_true rfl) (by decide) (Nat.le_of_ble_eq_true rfl) (wc_i H (fun r5 I4 H => ?_))
    refine w_if_ne (t := 30) dX12_carryOut_24 (by decide) (fun h => ?_) (fun h => ?_)
    · replace H := H.1 h
      refine w_aload_n dX12_carryOut_30 rfl rfl ?_
      refine w_callV (st := []) (As := []) dX12_carryOut_31 ml_12_322 okX12_keepState kd_261 (by decide) rfl rfl rfl (Nat.le_of_ble_eq_true rfl) (by decide) (Nat.le_of_ble_eq_true rfl) (wc_v H (fun I6 H => ?_))
      refine w_aload_n dX12_carryOut_34 rfl rfl ?_
      refine w_callV (st := []) (As := []) dX12_carryOut_35 ml_12_319 okX12_playRound kd_261 (by decide) rfl rfl rfl (Nat.le_of_ble_eq_true rfl) (by decide) (Nat.le_of_ble_eq_true rfl) (wc_v H (fun I7 H => ?_))
      refine w_iconst (v := 0) dX12_carryOut_38 (by decide) ?_
      refine w_istore_n (ls' := [some (.ref 261), some (.int a1), some (.int 0), none, none]) dX12_carryOut_39 rfl (by decide) rfl rfl ?_
      refine w_iconst (v := 0) dX12_carryOut_40 (by decide) ?_
      refine w_istore_n (ls' := [some (.ref 261), some (.int a1), some (.int 0), some (.int 0), none]) dX12_carryOut_41 rfl (by decide) rfl rfl ?_
      skip
      exact H
    · replace H := H.2 h
      refine w_bipush (v := (-2)) dX12_carryOut_27 (by decide) ?_
      exact w_iret dX12_carryOut_29 rfl ⟨_, rfl, H⟩
  · replace H := H.2 h
    refine w_iconst (v := (-1)) dX12_carryOut_17 (by decide) ?_
    exact w_iret dX12_carryOut_18 rfl ⟨_, rfl, H⟩
theorem dX12_bottlesAt_0 : decode cX12_bottlesAt 0 = .ok (.aload_n 0, 1) := by decide +kernel
theorem dX12_bottlesAt_1 : decode cX12_bottlesAt 1 = .ok (.iconst 0, 1) := by decide +kernel
theorem dX12_bottlesAt_2 : decode cX12_bottlesAt 2 = .ok (.putfield 87, 3) := by decide +kernel
theorem dX12_bottlesAt_5 : decode cX12_bottlesAt 5 = .ok (.aload_n 0, 1) := by decide +kernel
theorem dX12_bottlesAt_6 : decode cX12_bottlesAt 6 = .ok (.iload_n 1, 1) := by decide +kernel
theorem dX12_bottlesAt_7 : decode cX12_bottlesAt 7 = .ok (.invokevirtual 199, 3) := by decide +kernel
theorem dX12_bottlesAt_10 : decode cX12_bottlesAt 10 = .ok (.ifCond .eq 16, 3) := by decide +kernel
theorem dX12_bottlesAt_13 : decode cX12_bottlesAt 13 = .ok (.aload_n 0, 1) := by decide +kernel
theorem dX12_bottlesAt_14 : decode cX12_bottlesAt 14 = .ok (.getfield 47, 3) := by decide +kernel
theorem dX12_bottlesAt_17 : decode cX12_bottlesAt 17 = .ok (.sipush 145, 3) := by decide +kernel
theorem dX12_bottlesAt_20 : decode cX12_bottlesAt 20 = .ok (.iload_n 1, 1) := by decide +kernel
theorem dX12_bottlesAt_21 : decode cX12_bottlesAt 21 = .ok (.iadd, 1) := by decide +kernel
theorem dX12_bottlesAt_22 : decode cX12_bottlesAt 22 = .ok (.iaload, 1) := by decide +kernel
theorem dX12_bottlesAt_23 : decode cX12_bottlesAt 23 = .ok (.goto 4, 3) := by decide +kernel
theorem dX12_bottlesAt_26 : decode cX12_bottlesAt 26 = .ok (.iconst (-1), 1) := by decide +kernel
theorem dX12_bottlesAt_27 : decode cX12_bottlesAt 27 = .ok (.ireturn, 1) := by decide +kernel
set_option maxRecDepth 20000 in
theorem rX12_bottlesAt {a1 : Int32} {I : MI} {Q : Int32 → MI → Prop} (H : (∀ I1 : MI, I1 = up2 I 261 0 0 → Wi mX12_isHouse [.ref 261, .int a1] I1 (fun r3 I2 => ((r3 = 0 → (Q (-1) I2)) ∧ (¬ r3 = 0 → (vp_in (145 + a1) 332 ∧ Q (I2 274 (145 + a1).toNatClampNeg) I2)))))) : Wi mX12_bottlesAt [.ref 261, .int a1] I Q := by
  show WP mX12_bottlesAt 286 Rf0 0 [some (.ref 261), some (.int a1)] [] I (qi Q)
  refine w_aload_n dX12_bottlesAt_0 rfl rfl ?_
  refine w_iconst (v := 0) dX12_bottlesAt_1 (by decide) ?_
  refine w_putI dX12_bottlesAt_2 fl_12_87 okC12 kd_261 (by decide) (by decide) rfl rfl rfl (w_up fun I1 hI => ?_)
  replace H := H I1 hI
  refine w_aload_n dX12_bottlesAt_5 rfl rfl ?_
  refine w_iload_n dX12_bottlesAt_6 rfl rfl ?_
  refine w_callV (st := []) (As := [.int a1]) dX12_bottlesAt_7 ml_12_199 okX12_isHouse kd_261 (by decide) rfl rfl rfl (Nat.le_of_ble_eq_true rfl) (by decide) (Nat.le_of_ble_eq_true rfl) (wc_i H (fun r3 I2 H => ?_))
  refine w_if_eq (t := 26) dX12_bottlesAt_10 (by decide) (fun h => ?_) (fun h => ?_)
  · replace H := H.1 h
    refine w_iconst (v := (-1)) dX12_bottlesAt_26 (by decide) ?_
    exact w_iret dX12_bottlesAt_27 rfl ⟨_, rfl, H⟩
  · replace H := H.2 h
    refine w_aload_n dX12_bottlesAt_13 rfl rfl ?_
    refine w_getR dX12_bottlesAt_14 fl_12_47 okC12 kd_261 (by decide) (by decide) rfl rf_261_22 ?_
    refine w_sipush (v := 145) dX12_bottlesAt_17 (by decide) ?_
    refine w_iload_n dX12_bottlesAt_20 rfl rfl ?_
    refine w_iadd dX12_bottlesAt_21 ?_
    refine w_iald dX12_bottlesAt_22 kd_274 (by decide) H.1 ?_
    replace H := H.2
    refine w_goto (t := 27) dX12_bottlesAt_23 (by decide) ?_
    exact w_iret dX12_bottlesAt_27 rfl ⟨_, rfl, H⟩
theorem dX12_delivered_0 : decode cX12_delivered 0 = .ok (.aload_n 0, 1) := by decide +kernel
theorem dX12_delivered_1 : decode cX12_delivered 1 = .ok (.iconst 0, 1) := by decide +kernel
theorem dX12_delivered_2 : decode cX12_delivered 2 = .ok (.putfield 87, 3) := by decide +kernel
theorem dX12_delivered_5 : decode cX12_delivered 5 = .ok (.aload_n 0, 1) := by decide +kernel
theorem dX12_delivered_6 : decode cX12_delivered 6 = .ok (.iload_n 1, 1) := by decide +kernel
theorem dX12_delivered_7 : decode cX12_delivered 7 = .ok (.invokevirtual 199, 3) := by decide +kernel
theorem dX12_delivered_10 : decode cX12_delivered 10 = .ok (.ifCond .eq 16, 3) := by decide +kernel
theorem dX12_delivered_13 : decode cX12_delivered 13 = .ok (.aload_n 0, 1) := by decide +kernel
theorem dX12_delivered_14 : decode cX12_delivered 14 = .ok (.getfield 47, 3) := by decide +kernel
theorem dX12_delivered_17 : decode cX12_delivered 17 = .ok (.sipush 157, 3) := by decide +kernel
theorem dX12_delivered_20 : decode cX12_delivered 20 = .ok (.iload_n 1, 1) := by decide +kernel
theorem dX12_delivered_21 : decode cX12_delivered 21 = .ok (.iadd, 1) := by decide +kernel
theorem dX12_delivered_22 : decode cX12_delivered 22 = .ok (.iaload, 1) := by decide +kernel
theorem dX12_delivered_23 : decode cX12_delivered 23 = .ok (.goto 4, 3) := by decide +kernel
theorem dX12_delivered_26 : decode cX12_delivered 26 = .ok (.iconst (-1), 1) := by decide +kernel
theorem dX12_delivered_27 : decode cX12_delivered 27 = .ok (.ireturn, 1) := by decide +kernel
set_option maxRecDepth 20000 in
theorem rX12_delivered {a1 : Int32} {I : MI} {Q : Int32 → MI → Prop} (H : (∀ I1 : MI, I1 = up2 I 261 0 0 → Wi mX12_isHouse [.ref 261, .int a1] I1 (fun r3 I2 => ((r3 = 0 → (Q (-1) I2)) ∧ (¬ r3 = 0 → (vp_in (157 + a1) 332 ∧ Q (I2 274 (157 + a1).toNatClampNeg) I2)))))) : Wi mX12_delivered [.ref 261, .int a1] I Q := by
  show WP mX12_delivered 286 Rf0 0 [some (.ref 261), some (.int a1)] [] I (qi Q)
  refine w_aload_n dX12_delivered_0 rfl rfl ?_
  refine w_iconst (v := 0) dX12_delivered_1 (by decide) ?_
  refine w_putI dX12_delivered_2 fl_12_87 okC12 kd_261 (by decide) (by decide) rfl rfl rfl (w_up fun I1 hI => ?_)
  replace H := H I1 hI
  refine w_aload_n dX12_delivered_5 rfl rfl ?_
  refine w_iload_n dX12_delivered_6 rfl rfl ?_
  refine w_callV (st := []) (As := [.int a1]) dX12_delivered_7 ml_12_199 okX12_isHouse kd_261 (by decide) rfl rfl rfl (Nat.le_of_ble_eq_true rfl) (by decide) (Nat.le_of_ble_eq_true rfl) (wc_i H (fun r3 I2 H => ?_))
  refine w_if_eq (t := 26) dX12_delivered_10 (by decide) (fun h => ?_) (fun h => ?_)
  · replace H := H.1 h
    refine w_iconst (v := (-1)) dX12_delivered_26 (by decide) ?_
    exact w_iret dX12_delivered_27 rfl ⟨_, rfl, H⟩
  · replace H := H.2 h
    refine w_aload_n dX12_delivered_13 rfl rfl ?_
    refine w_getR dX12_delivered_14 fl_12_47 okC12 kd_261 (by decide) (by decide) rfl rf_261_22 ?_
    refine w_sipush (v := 157) dX12_delivered_17 (by decide) ?_
    refine w_iload_n dX12_delivered_20 rfl rfl ?_
    refine w_iadd dX12_delivered_21 ?_
    refine w_iald dX12_delivered_22 kd_274 (by decide) H.1 ?_
    replace H := H.2
    refine w_goto (t := 27) dX12_delivered_23 (by decide) ?_
    exact w_iret dX12_delivered_27 rfl ⟨_, rfl, H⟩
theorem dX12_returned_0 : decode cX12_returned 0 = .ok (.aload_n 0, 1) := by decide +kernel
theorem dX12_returned_1 : decode cX12_returned 1 = .ok (.iconst 0, 1) := by decide +kernel
theorem dX12_returned_2 : decode cX12_returned 2 = .ok (.putfield 87, 3) := by decide +kernel
theorem dX12_returned_5 : decode cX12_returned 5 = .ok (.aload_n 0, 1) := by decide +kernel
theorem dX12_returned_6 : decode cX12_returned 6 = .ok (.iload_n 1, 1) := by decide +kernel
theorem dX12_returned_7 : decode cX12_returned 7 = .ok (.invokevirtual 199, 3) := by decide +kernel
theorem dX12_returned_10 : decode cX12_returned 10 = .ok (.ifCond .eq 16, 3) := by decide +kernel
theorem dX12_returned_13 : decode cX12_returned 13 = .ok (.aload_n 0, 1) := by decide +kernel
theorem dX12_returned_14 : decode cX12_returned 14 = .ok (.getfield 47, 3) := by decide +kernel
theorem dX12_returned_17 : decode cX12_returned 17 = .ok (.sipush 169, 3) := by decide +kernel
theorem dX12_returned_20 : decode cX12_returned 20 = .ok (.iload_n 1, 1) := by decide +kernel
theorem dX12_returned_21 : decode cX12_returned 21 = .ok (.iadd, 1) := by decide +kernel
theorem dX12_returned_22 : decode cX12_returned 22 = .ok (.iaload, 1) := by decide +kernel
theorem dX12_returned_23 : decode cX12_returned 23 = .ok (.goto 4, 3) := by decide +kernel
theorem dX12_returned_26 : decode cX12_returned 26 = .ok (.iconst (-1), 1) := by decide +kernel
theorem dX12_returned_27 : decode cX12_returned 27 = .ok (.ireturn, 1) := by decide +kernel
set_option maxRecDepth 20000 in
theorem rX12_returned {a1 : Int32} {I : MI} {Q : Int32 → MI → Prop} (H : (∀ I1 : MI, I1 = up2 I 261 0 0 → Wi mX12_isHouse [.ref 261, .int a1] I1 (fun r3 I2 => ((r3 = 0 → (Q (-1) I2)) ∧ (¬ r3 = 0 → (vp_in (169 + a1) 332 ∧ Q (I2 274 (169 + a1).toNatClampNeg) I2)))))) : Wi mX12_returned [.ref 261, .int a1] I Q := by
  show WP mX12_returned 286 Rf0 0 [some (.ref 261), some (.int a1)] [] I (qi Q)
  refine w_aload_n dX12_returned_0 rfl rfl ?_
  refine w_iconst (v := 0) dX12_returned_1 (by decide) ?_
  refine w_putI dX12_returned_2 fl_12_87 okC12 kd_261 (by decide) (by decide) rfl rfl rfl (w_up fun I1 hI => ?_)
  replace H := H I1 hI
  refine w_aload_n dX12_returned_5 rfl rfl ?_
  refine w_iload_n dX12_returned_6 rfl rfl ?_
  refine w_callV (st := []) (As := [.int a1]) dX12_returned_7 ml_12_199 okX12_isHouse kd_261 (by decide) rfl rfl rfl (Nat.le_of_ble_eq_true rfl) (by decide) (Nat.le_of_ble_eq_true rfl) (wc_i H (fun r3 I2 H => ?_))
  refine w_if_eq (t := 26) dX12_returned_10 (by decide) (fun h => ?_) (fun h => ?_)
  · replace H := H.1 h
    refine w_iconst (v := (-1)) dX12_returned_26 (by decide) ?_
    exact w_iret dX12_returned_27 rfl ⟨_, rfl, H⟩
  · replace H := H.2 h
    refine w_aload_n dX12_returned_13 rfl rfl ?_
    refine w_getR dX12_returned_14 fl_12_47 okC12 kd_261 (by decide) (by decide) rfl rf_261_22 ?_
    refine w_sipush (v := 169) dX12_returned_17 (by decide) ?_
    refine w_iload_n dX12_returned_20 rfl rfl ?_
    refine w_iadd dX12_returned_21 ?_
    refine w_iald dX12_returned_22 kd_274 (by decide) H.1 ?_
    replace H := H.2
    refine w_goto (t := 27) dX12_returned_23 (by decide) ?_
    exact w_iret dX12_returned_27 rfl ⟨_, rfl, H⟩
theorem dX12_broken_0 : decode cX12_broken 0 = .ok (.aload_n 0, 1) := by decide +kernel
theorem dX12_broken_1 : decode cX12_broken 1 = .ok (.iconst 0, 1) := by decide +kernel
theorem dX12_broken_2 : decode cX12_broken 2 = .ok (.putfield 87, 3) := by decide +kernel
theorem dX12_broken_5 : decode cX12_broken 5 = .ok (.aload_n 0, 1) := by decide +kernel
theorem dX12_broken_6 : decode cX12_broken 6 = .ok (.iload_n 1, 1) := by decide +kernel
theorem dX12_broken_7 : decode cX12_broken 7 = .ok (.invokevirtual 199, 3) := by decide +kernel
theorem dX12_broken_10 : decode cX12_broken 10 = .ok (.ifCond .eq 16, 3) := by decide +kernel
theorem dX12_broken_13 : decode cX12_broken 13 = .ok (.aload_n 0, 1) := by decide +kernel
theorem dX12_broken_14 : decode cX12_broken 14 = .ok (.getfield 47, 3) := by decide +kernel
theorem dX12_broken_17 : decode cX12_broken 17 = .ok (.sipush 181, 3) := by decide +kernel
theorem dX12_broken_20 : decode cX12_broken 20 = .ok (.iload_n 1, 1) := by decide +kernel
theorem dX12_broken_21 : decode cX12_broken 21 = .ok (.iadd, 1) := by decide +kernel
theorem dX12_broken_22 : decode cX12_broken 22 = .ok (.iaload, 1) := by decide +kernel
theorem dX12_broken_23 : decode cX12_broken 23 = .ok (.goto 4, 3) := by decide +kernel
theorem dX12_broken_26 : decode cX12_broken 26 = .ok (.iconst (-1), 1) := by decide +kernel
theorem dX12_broken_27 : decode cX12_broken 27 = .ok (.ireturn, 1) := by decide +kernel
set_option maxRecDepth 20000 in
theorem rX12_broken {a1 : Int32} {I : MI} {Q : Int32 → MI → Prop} (H : (∀ I1 : MI, I1 = up2 I 261 0 0 → Wi mX12_isHouse [.ref 261, .int a1] I1 (fun r3 I2 => ((r3 = 0 → (Q (-1) I2)) ∧ (¬ r3 = 0 → (vp_in (181 + a1) 332 ∧ Q (I2 274 (181 + a1).toNatClampNeg) I2)))))) : Wi mX12_broken [.ref 261, .int a1] I Q := by
  show WP mX12_broken 286 Rf0 0 [some (.ref 261), some (.int a1)] [] I (qi Q)
  refine w_aload_n dX12_broken_0 rfl rfl ?_
  refine w_iconst (v := 0) dX12_broken_1 (by decide) ?_
  refine w_putI dX12_broken_2 fl_12_87 okC12 kd_261 (by decide) (by decide) rfl rfl rfl (w_up fun I1 hI => ?_)
  replace H := H I1 hI
  refine w_aload_n dX12_broken_5 rfl rfl ?_
  refine w_iload_n dX12_broken_6 rfl rfl ?_
  refine w_callV (st := []) (As := [.int a1]) dX12_broken_7 ml_12_199 okX12_isHouse kd_261 (by decide) rfl rfl rfl (Nat.le_of_ble_eq_true rfl) (by decide) (Nat.le_of_ble_eq_true rfl) (wc_i H (fun r3 I2 H => ?_))
  refine w_if_eq (t := 26) dX12_broken_10 (by decide) (fun h => ?_) (fun h => ?_)
  · replace H := H.1 h
    refine w_iconst (v := (-1)) dX12_broken_26 (by decide) ?_
    exact w_iret dX12_broken_27 rfl ⟨_, rfl, H⟩
  · replace H := H.2 h
    refine w_aload_n dX12_broken_13 rfl rfl ?_
    refine w_getR dX12_broken_14 fl_12_47 okC12 kd_261 (by decide) (by decide) rfl rf_261_22 ?_
    refine w_sipush (v := 181) dX12_broken_17 (by decide) ?_
    refine w_iload_n dX12_broken_20 rfl rfl ?_
    refine w_iadd dX12_broken_21 ?_
    refine w_iald dX12_broken_22 kd_274 (by decide) H.1 ?_
    replace H := H.2
    refine w_goto (t := 27) dX12_broken_23 (by decide) ?_
    exact w_iret dX12_broken_27 rfl ⟨_, rfl, H⟩
theorem dX12_bill_0 : decode cX12_bill 0 = .ok (.aload_n 0, 1) := by decide +kernel
theorem dX12_bill_1 : decode cX12_bill 1 = .ok (.iconst 0, 1) := by decide +kernel
theorem dX12_bill_2 : decode cX12_bill 2 = .ok (.putfield 87, 3) := by decide +kernel
theorem dX12_bill_5 : decode cX12_bill 5 = .ok (.aload_n 0, 1) := by decide +kernel
theorem dX12_bill_6 : decode cX12_bill 6 = .ok (.iload_n 1, 1) := by decide +kernel
theorem dX12_bill_7 : decode cX12_bill 7 = .ok (.invokevirtual 199, 3) := by decide +kernel
theorem dX12_bill_10 : decode cX12_bill 10 = .ok (.ifCond .eq 41, 3) := by decide +kernel
theorem dX12_bill_13 : decode cX12_bill 13 = .ok (.aload_n 0, 1) := by decide +kernel
theorem dX12_bill_14 : decode cX12_bill 14 = .ok (.getfield 47, 3) := by decide +kernel
theorem dX12_bill_17 : decode cX12_bill 17 = .ok (.sipush 157, 3) := by decide +kernel
theorem dX12_bill_20 : decode cX12_bill 20 = .ok (.iload_n 1, 1) := by decide +kernel
theorem dX12_bill_21 : decode cX12_bill 21 = .ok (.iadd, 1) := by decide +kernel
theorem dX12_bill_22 : decode cX12_bill 22 = .ok (.iaload, 1) := by decide +kernel
theorem dX12_bill_23 : decode cX12_bill 23 = .ok (.aload_n 0, 1) := by decide +kernel
theorem dX12_bill_24 : decode cX12_bill 24 = .ok (.getfield 13, 3) := by decide +kernel
theorem dX12_bill_27 : decode cX12_bill 27 = .ok (.iconst 3, 1) := by decide +kernel
theorem dX12_bill_28 : decode cX12_bill 28 = .ok (.iaload, 1) := by decide +kernel
theorem dX12_bill_29 : decode cX12_bill 29 = .ok (.imul, 1) := by decide +kernel
theorem dX12_bill_30 : decode cX12_bill 30 = .ok (.aload_n 0, 1) := by decide +kernel
theorem dX12_bill_31 : decode cX12_bill 31 = .ok (.getfield 47, 3) := by decide +kernel
theorem dX12_bill_34 : decode cX12_bill 34 = .ok (.sipush 181, 3) := by decide +kernel
theorem dX12_bill_37 : decode cX12_bill 37 = .ok (.iload_n 1, 1) := by decide +kernel
theorem dX12_bill_38 : decode cX12_bill 38 = .ok (.iadd, 1) := by decide +kernel
theorem dX12_bill_39 : decode cX12_bill 39 = .ok (.iaload, 1) := by decide +kernel
theorem dX12_bill_40 : decode cX12_bill 40 = .ok (.aload_n 0, 1) := by decide +kernel
theorem dX12_bill_41 : decode cX12_bill 41 = .ok (.getfield 13, 3) := by decide +kernel
theorem dX12_bill_44 : decode cX12_bill 44 = .ok (.iconst 4, 1) := by decide +kernel
theorem dX12_bill_45 : decode cX12_bill 45 = .ok (.iaload, 1) := by decide +kernel
theorem dX12_bill_46 : decode cX12_bill 46 = .ok (.imul, 1) := by decide +kernel
theorem dX12_bill_47 : decode cX12_bill 47 = .ok (.iadd, 1) := by decide +kernel
theorem dX12_bill_48 : decode cX12_bill 48 = .ok (.goto 4, 3) := by decide +kernel
theorem dX12_bill_51 : decode cX12_bill 51 = .ok (.iconst (-1), 1) := by decide +kernel
theorem dX12_bill_52 : decode cX12_bill 52 = .ok (.ireturn, 1) := by decide +kernel
set_option maxRecDepth 20000 in
theorem rX12_bill {a1 : Int32} {I : MI} {Q : Int32 → MI → Prop} (H : (∀ I1 : MI, I1 = up2 I 261 0 0 → Wi mX12_isHouse [.ref 261, .int a1] I1 (fun r3 I2 => ((r3 = 0 → (Q (-1) I2)) ∧ (¬ r3 = 0 → (vp_in (157 + a1) 332 ∧ vp_in 3 7 ∧ vp_in (181 + a1) 332 ∧ vp_in 4 7 ∧ Q (((I2 274 (157 + a1).toNatClampNeg) * (I2 263 (3 : Int32).toNatClampNeg)) + ((I2 274 (181 + a1).toNatClampNeg) * (I2 263 (4 : Int32).toNatClampNeg))) I2)))))) : Wi mX12_bill [.ref 261, .int a1] I Q := by
  show WP mX12_bill 286 Rf0 0 [some (.ref 261), some (.int a1)] [] I (qi Q)
  refine w_aload_n dX12_bill_0 rfl rfl ?_
  refine w_iconst (v := 0) dX12_bill_1 (by decide) ?_
  refine w_putI dX12_bill_2 fl_12_87 okC12 kd_261 (by decide) (by decide) rfl rfl rfl (w_up fun I1 hI => ?_)
  replace H := H I1 hI
  refine w_aload_n dX12_bill_5 rfl rfl ?_
  refine w_iload_n dX12_bill_6 rfl rfl ?_
  refine w_callV (st := []) (As := [.int a1]) dX12_bill_7 ml_12_199 okX12_isHouse kd_261 (by decide) rfl rfl rfl (Nat.le_of_ble_eq_true rfl) (by decide) (Nat.le_of_ble_eq_true rfl) (wc_i H (fun r3 I2 H => ?_))
  refine w_if_eq (t := 51) dX12_bill_10 (by decide) (fun h => ?_) (fun h => ?_)
  · replace H := H.1 h
    refine w_iconst (v := (-1)) dX12_bill_51 (by decide) ?_
    exact w_iret dX12_bill_52 rfl ⟨_, rfl, H⟩
  · replace H := H.2 h
    refine w_aload_n dX12_bill_13 rfl rfl ?_
    refine w_getR dX12_bill_14 fl_12_47 okC12 kd_261 (by decide) (by decide) rfl rf_261_22 ?_
    refine w_sipush (v := 157) dX12_bill_17 (by decide) ?_
    refine w_iload_n dX12_bill_20 rfl rfl ?_
    refine w_iadd dX12_bill_21 ?_
    refine w_iald dX12_bill_22 kd_274 (by decide) H.1 ?_
    replace H := H.2
    refine w_aload_n dX12_bill_23 rfl rfl ?_
    refine w_getR dX12_bill_24 fl_12_13 okC12 kd_261 (by decide) (by decide) rfl rf_261_10 ?_
    refine w_iconst (v := 3) dX12_bill_27 (by decide) ?_
    refine w_iald dX12_bill_28 kd_263 (by decide) H.1 ?_
    replace H := H.2
    refine w_imul dX12_bill_29 ?_
    refine w_aload_n dX12_bill_30 rfl rfl ?_
    refine w_getR dX12_bill_31 fl_12_47 okC12 kd_261 (by decide) (by decide) rfl rf_261_22 ?_
    refine w_sipush (v := 181) dX12_bill_34 (by decide) ?_
    refine w_iload_n dX12_bill_37 rfl rfl ?_
    refine w_iadd dX12_bill_38 ?_
    refine w_iald dX12_bill_39 kd_274 (by decide) H.1 ?_
    replace H := H.2
    refine w_aload_n dX12_bill_40 rfl rfl ?_
    refine w_getR dX12_bill_41 fl_12_13 okC12 kd_261 (by decide) (by decide) rfl rf_261_10 ?_
    refine w_iconst (v := 4) dX12_bill_44 (by decide) ?_
    refine w_iald dX12_bill_45 kd_263 (by decide) H.1 ?_
    replace H := H.2
    refine w_imul dX12_bill_46 ?_
    refine w_iadd dX12_bill_47 ?_
    refine w_goto (t := 52) dX12_bill_48 (by decide) ?_
    exact w_iret dX12_bill_52 rfl ⟨_, rfl, H⟩
theorem dX12_bottlesOut_0 : decode cX12_bottlesOut 0 = .ok (.aload_n 0, 1) := by decide +kernel
theorem dX12_bottlesOut_1 : decode cX12_bottlesOut 1 = .ok (.iconst 0, 1) := by decide +kernel
theorem dX12_bottlesOut_2 : decode cX12_bottlesOut 2 = .ok (.putfield 87, 3) := by decide +kernel
theorem dX12_bottlesOut_5 : decode cX12_bottlesOut 5 = .ok (.iconst 0, 1) := by decide +kernel
theorem dX12_bottlesOut_6 : decode cX12_bottlesOut 6 = .ok (.istore_n 1, 1) := by decide +kernel
theorem dX12_bottlesOut_7 : decode cX12_bottlesOut 7 = .ok (.iconst 0, 1) := by decide +kernel
theorem dX12_bottlesOut_8 : decode cX12_bottlesOut 8 = .ok (.istore_n 2, 1) := by decide +kernel
theorem dX12_bottlesOut_9 : decode cX12_bottlesOut 9 = .ok (.iload_n 2, 1) := by decide +kernel
theorem dX12_bottlesOut_10 : decode cX12_bottlesOut 10 = .ok (.bipush 12, 2) := by decide +kernel
theorem dX12_bottlesOut_12 : decode cX12_bottlesOut 12 = .ok (.if_icmp .ge 22, 3) := by decide +kernel
theorem dX12_bottlesOut_15 : decode cX12_bottlesOut 15 = .ok (.iload_n 1, 1) := by decide +kernel
theorem dX12_bottlesOut_16 : decode cX12_bottlesOut 16 = .ok (.aload_n 0, 1) := by decide +kernel
theorem dX12_bottlesOut_17 : decode cX12_bottlesOut 17 = .ok (.getfield 47, 3) := by decide +kernel
theorem dX12_bottlesOut_20 : decode cX12_bottlesOut 20 = .ok (.sipush 145, 3) := by decide +kernel
theorem dX12_bottlesOut_23 : decode cX12_bottlesOut 23 = .ok (.iload_n 2, 1) := by decide +kernel
theorem dX12_bottlesOut_24 : decode cX12_bottlesOut 24 = .ok (.iadd, 1) := by decide +kernel
theorem dX12_bottlesOut_25 : decode cX12_bottlesOut 25 = .ok (.iaload, 1) := by decide +kernel
theorem dX12_bottlesOut_26 : decode cX12_bottlesOut 26 = .ok (.iadd, 1) := by decide +kernel
theorem dX12_bottlesOut_27 : decode cX12_bottlesOut 27 = .ok (.istore_n 1, 1) := by decide +kernel
theorem dX12_bottlesOut_28 : decode cX12_bottlesOut 28 = .ok (.iinc 2 1, 3) := by decide +kernel
theorem dX12_bottlesOut_31 : decode cX12_bottlesOut 31 = .ok (.goto (-22), 3) := by decide +kernel
theorem dX12_bottlesOut_34 : decode cX12_bottlesOut 34 = .ok (.iload_n 1, 1) := by decide +kernel
theorem dX12_bottlesOut_35 : decode cX12_bottlesOut 35 = .ok (.ireturn, 1) := by decide +kernel
abbrev LX12_bottlesOut_9 (l1 l2 : Int32) (I : MI) (Q : Int32 → MI → Prop) : Prop := WP mX12_bottlesOut 286 Rf0 9 [some (.ref 261), some (.int l1), some (.int l2)] [] I (qi Q)
set_option maxRecDepth 20000 in
theorem rX12_bottlesOut_9 {l1 l2 : Int32} {I : MI} {Q : Int32 → MI → Prop} (H : ((12 ≤ l2 → (Q l1 I)) ∧ (¬ 12 ≤ l2 → (vp_in (145 + l2) 332 ∧ LX12_bottlesOut_9 (l1 + (I 274 (145 + l2).toNatClampNeg)) (l2 + 1) I Q)))) : LX12_bottlesOut_9 l1 l2 I Q := by
  show WP mX12_bottlesOut 286 Rf0 9 [some (.ref 261), some (.int l1), some (.int l2)] [] I (qi Q)
  refine w_iload_n dX12_bottlesOut_9 rfl rfl ?_
  refine w_bipush (v := 12) dX12_bottlesOut_10 (by decide) ?_
  refine w_icmp_ge (t := 34) dX12_bottlesOut_12 (by decide) (fun h => ?_) (fun h => ?_)
  · replace H := H.1 h
    refine w_iload_n dX12_bottlesOut_34 rfl rfl ?_
    exact w_iret dX12_bottlesOut_35 rfl ⟨_, rfl, H⟩
  · replace H := H.2 h
    refine w_iload_n dX12_bottlesOut_15 rfl rfl ?_
    refine w_aload_n dX12_bottlesOut_16 rfl rfl ?_
    refine w_getR dX12_bottlesOut_17 fl_12_47 okC12 kd_261 (by decide) (by decide) rfl rf_261_22 ?_
    refine w_sipush (v := 145) dX12_bottlesOut_20 (by decide) ?_
    refine w_iload_n dX12_bottlesOut_23 rfl rfl ?_
    refine w_iadd dX12_bottlesOut_24 ?_
    refine w_iald dX12_bottlesOut_25 kd_274 (by decide) H.1 ?_
    replace H := H.2
    refine w_iadd dX12_bottlesOut_26 ?_
    refine w_istore_n (ls' := [some (.ref 261), some (.int (l1 + (I 274 (145 + l2).toNatClampNeg))), some (.int l2)]) dX12_bottlesOut_27 rfl (by decide) rfl rfl ?_
    refine w_iinc (v := l2 + 1) (ls' := [some (.ref 261), some (.int (l1 + (I 274 (145 + l2).toNatClampNeg))), some (.int (l2 + 1))]) dX12_bottlesOut_28 rfl rfl (by decide) rfl rfl ?_
    refine w_goto (t := 9) dX12_bottlesOut_31 (by decide) ?_
    skip
    exact H
set_option maxRecDepth 20000 in
theorem rX12_bottlesOut {I : MI} {Q : Int32 → MI → Prop} (H : (∀ I1 : MI, I1 = up2 I 261 0 0 → LX12_bottlesOut_9 0 0 I1 Q)) : Wi mX12_bottlesOut [.ref 261] I Q := by
  show WP mX12_bottlesOut 286 Rf0 0 [some (.ref 261), none, none] [] I (qi Q)
  refine w_aload_n dX12_bottlesOut_0 rfl rfl ?_
  refine w_iconst (v := 0) dX12_bottlesOut_1 (by decide) ?_
  refine w_putI dX12_bottlesOut_2 fl_12_87 okC12 kd_261 (by decide) (by decide) rfl rfl rfl (w_up fun I1 hI => ?_)
  replace H := H I1 hI
  refine w_iconst (v := 0) dX12_bottlesOut_5 (by decide) ?_
  refine w_istore_n (ls' := [some (.ref 261), some (.int 0), none]) dX12_bottlesOut_6 rfl (by decide) rfl rfl ?_
  refine w_iconst (v := 0) dX12_bottlesOut_7 (by decide) ?_
  refine w_istore_n (ls' := [some (.ref 261), some (.int 0), some (.int 0)]) dX12_bottlesOut_8 rfl (by decide) rfl rfl ?_
  skip
  exact H
theorem dX12_finish_0 : decode cX12_finish 0 = .ok (.aload_n 0, 1) := by decide +kernel
theorem dX12_finish_1 : decode cX12_finish 1 = .ok (.iconst 0, 1) := by decide +kernel
theorem dX12_finish_2 : decode cX12_finish 2 = .ok (.putfield 87, 3) := by decide +kernel
theorem dX12_finish_5 : decode cX12_finish 5 = .ok (.aload_n 0, 1) := by decide +kernel
theorem dX12_finish_6 : decode cX12_finish 6 = .ok (.getfield 47, 3) := by decide +kernel
theorem dX12_finish_9 : decode cX12_finish 9 = .ok (.sipush 293, 3) := by decide +kernel
theorem dX12_finish_12 : decode cX12_finish 12 = .ok (.iaload, 1) := by decide +kernel
theorem dX12_finish_13 : decode cX12_finish 13 = .ok (.ireturn, 1) := by decide +kernel
set_option maxRecDepth 20000 in
theorem rX12_finish {I : MI} {Q : Int32 → MI → Prop} (H : (∀ I1 : MI, I1 = up2 I 261 0 0 → vp_in 293 332 ∧ Q (I1 274 (293 : Int32).toNatClampNeg) I1)) : Wi mX12_finish [.ref 261] I Q := by
  show WP mX12_finish 286 Rf0 0 [some (.ref 261)] [] I (qi Q)
  refine w_aload_n dX12_finish_0 rfl rfl ?_
  refine w_iconst (v := 0) dX12_finish_1 (by decide) ?_
  refine w_putI dX12_finish_2 fl_12_87 okC12 kd_261 (by decide) (by decide) rfl rfl rfl (w_up fun I1 hI => ?_)
  replace H := H I1 hI
  refine w_aload_n dX12_finish_5 rfl rfl ?_
  refine w_getR dX12_finish_6 fl_12_47 okC12 kd_261 (by decide) (by decide) rfl rf_261_22 ?_
  refine w_sipush (v := 293) dX12_finish_9 (by decide) ?_
  refine w_iald dX12_finish_12 kd_274 (by decide) H.1 ?_
  replace H := H.2
  exact w_iret dX12_finish_13 rfl ⟨_, rfl, H⟩
theorem dX12_visitCount_0 : decode cX12_visitCount 0 = .ok (.aload_n 0, 1) := by decide +kernel
theorem dX12_visitCount_1 : decode cX12_visitCount 1 = .ok (.iconst 0, 1) := by decide +kernel
theorem dX12_visitCount_2 : decode cX12_visitCount 2 = .ok (.putfield 87, 3) := by decide +kernel
theorem dX12_visitCount_5 : decode cX12_visitCount 5 = .ok (.aload_n 0, 1) := by decide +kernel
theorem dX12_visitCount_6 : decode cX12_visitCount 6 = .ok (.getfield 47, 3) := by decide +kernel
theorem dX12_visitCount_9 : decode cX12_visitCount 9 = .ok (.sipush 294, 3) := by decide +kernel
theorem dX12_visitCount_12 : decode cX12_visitCount 12 = .ok (.iaload, 1) := by decide +kernel
theorem dX12_visitCount_13 : decode cX12_visitCount 13 = .ok (.ireturn, 1) := by decide +kernel
set_option maxRecDepth 20000 in
theorem rX12_visitCount {I : MI} {Q : Int32 → MI → Prop} (H : (∀ I1 : MI, I1 = up2 I 261 0 0 → vp_in 294 332 ∧ Q (I1 274 (294 : Int32).toNatClampNeg) I1)) : Wi mX12_visitCount [.ref 261] I Q := by
  show WP mX12_visitCount 286 Rf0 0 [some (.ref 261)] [] I (qi Q)
  refine w_aload_n dX12_visitCount_0 rfl rfl ?_
  refine w_iconst (v := 0) dX12_visitCount_1 (by decide) ?_
  refine w_putI dX12_visitCount_2 fl_12_87 okC12 kd_261 (by decide) (by decide) rfl rfl rfl (w_up fun I1 hI => ?_)
  replace H := H I1 hI
  refine w_aload_n dX12_visitCount_5 rfl rfl ?_
  refine w_getR dX12_visitCount_6 fl_12_47 okC12 kd_261 (by decide) (by decide) rfl rf_261_22 ?_
  refine w_sipush (v := 294) dX12_visitCount_9 (by decide) ?_
  refine w_iald dX12_visitCount_12 kd_274 (by decide) H.1 ?_
  replace H := H.2
  exact w_iret dX12_visitCount_13 rfl ⟨_, rfl, H⟩
theorem dX12_recordOf_0 : decode cX12_recordOf 0 = .ok (.iload_n 2, 1) := by decide +kernel
theorem dX12_recordOf_1 : decode cX12_recordOf 1 = .ok (.i2l, 1) := by decide +kernel
theorem dX12_recordOf_2 : decode cX12_recordOf 2 = .ok (.lconst 0, 1) := by decide +kernel
theorem dX12_recordOf_3 : decode cX12_recordOf 3 = .ok (.aload_n 0, 1) := by decide +kernel
theorem dX12_recordOf_4 : decode cX12_recordOf 4 = .ok (.getfield 47, 3) := by decide +kernel
theorem dX12_recordOf_7 : decode cX12_recordOf 7 = .ok (.sipush 294, 3) := by decide +kernel
theorem dX12_recordOf_10 : decode cX12_recordOf 10 = .ok (.iaload, 1) := by decide +kernel
theorem dX12_recordOf_11 : decode cX12_recordOf 11 = .ok (.iconst 1, 1) := by decide +kernel
theorem dX12_recordOf_12 : decode cX12_recordOf 12 = .ok (.isub, 1) := by decide +kernel
theorem dX12_recordOf_13 : decode cX12_recordOf 13 = .ok (.i2l, 1) := by decide +kernel
theorem dX12_recordOf_14 : decode cX12_recordOf 14 = .ok (.invokestatic 118, 3) := by decide +kernel
theorem dX12_recordOf_17 : decode cX12_recordOf 17 = .ok (.ifCond .eq 14, 3) := by decide +kernel
theorem dX12_recordOf_20 : decode cX12_recordOf 20 = .ok (.aload_n 0, 1) := by decide +kernel
theorem dX12_recordOf_21 : decode cX12_recordOf 21 = .ok (.getfield 47, 3) := by decide +kernel
theorem dX12_recordOf_24 : decode cX12_recordOf 24 = .ok (.iload_n 1, 1) := by decide +kernel
theorem dX12_recordOf_25 : decode cX12_recordOf 25 = .ok (.iload_n 2, 1) := by decide +kernel
theorem dX12_recordOf_26 : decode cX12_recordOf 26 = .ok (.iadd, 1) := by decide +kernel
theorem dX12_recordOf_27 : decode cX12_recordOf 27 = .ok (.iaload, 1) := by decide +kernel
theorem dX12_recordOf_28 : decode cX12_recordOf 28 = .ok (.goto 4, 3) := by decide +kernel
theorem dX12_recordOf_31 : decode cX12_recordOf 31 = .ok (.iconst (-1), 1) := by decide +kernel
theorem dX12_recordOf_32 : decode cX12_recordOf 32 = .ok (.ireturn, 1) := by decide +kernel
set_option maxRecDepth 20000 in
theorem rX12_recordOf {a1 a2 : Int32} {I : MI} {Q : Int32 → MI → Prop} (H : (vp_in 294 332 ∧ Wi mX12_within [.long a2.toInt64, .long 0, .long (((I 274 (294 : Int32).toNatClampNeg) - 1).toInt64)] I (fun r2 I1 => ((r2 = 0 → (Q (-1) I1)) ∧ (¬ r2 = 0 → (vp_in (a1 + a2) 332 ∧ Q (I1 274 (a1 + a2).toNatClampNeg) I1)))))) : Wi mX12_recordOf [.ref 261, .int a1, .int a2] I Q := by
  show WP mX12_recordOf 286 Rf0 0 [some (.ref 261), some (.int a1), some (.int a2)] [] I (qi Q)
  refine w_iload_n dX12_recordOf_0 rfl rfl ?_
  refine w_i2l dX12_recordOf_1 ?_
  refine w_lconst (v := 0) dX12_recordOf_2 (by decide) ?_
  refine w_aload_n dX12_recordOf_3 rfl rfl ?_
  refine w_getR dX12_recordOf_4 fl_12_47 okC12 kd_261 (by decide) (by decide) rfl rf_261_22 ?_
  refine w_sipush (v := 294) dX12_recordOf_7 (by decide) ?_
  refine w_iald dX12_recordOf_10 kd_274 (by decide) H.1 ?_
  replace H := H.2
  refine w_iconst (v := 1) dX12_recordOf_11 (by decide) ?_
  refine w_isub dX12_recordOf_12 ?_
  refine w_i2l dX12_recordOf_13 ?_
  refine w_callS (st := []) (As := [.long a2.toInt64, .long 0, .long (((I 274 (294 : Int32).toNatClampNeg) - 1).toInt64)]) dX12_recordOf_14 ml_12_118 okX12_within rfl (Nat.le_of_ble_eq_true rfl) (by decide) (Nat.le_of_ble_eq_true rfl) (wc_i H (fun r2 I1 H => ?_))
  refine w_if_eq (t := 31) dX12_recordOf_17 (by decide) (fun h => ?_) (fun h => ?_)
  · replace H := H.1 h
    refine w_iconst (v := (-1)) dX12_recordOf_31 (by decide) ?_
    exact w_iret dX12_recordOf_32 rfl ⟨_, rfl, H⟩
  · replace H := H.2 h
    refine w_aload_n dX12_recordOf_20 rfl rfl ?_
    refine w_getR dX12_recordOf_21 fl_12_47 okC12 kd_261 (by decide) (by decide) rfl rf_261_22 ?_
    refine w_iload_n dX12_recordOf_24 rfl rfl ?_
    refine w_iload_n dX12_recordOf_25 rfl rfl ?_
    refine w_iadd dX12_recordOf_26 ?_
    refine w_iald dX12_recordOf_27 kd_274 (by decide) H.1 ?_
    replace H := H.2
    refine w_goto (t := 32) dX12_recordOf_28 (by decide) ?_
    exact w_iret dX12_recordOf_32 rfl ⟨_, rfl, H⟩
theorem dX12_visitHouse_0 : decode cX12_visitHouse 0 = .ok (.aload_n 0, 1) := by decide +kernel
theorem dX12_visitHouse_1 : decode cX12_visitHouse 1 = .ok (.iconst 0, 1) := by decide +kernel
theorem dX12_visitHouse_2 : decode cX12_visitHouse 2 = .ok (.putfield 87, 3) := by decide +kernel
theorem dX12_visitHouse_5 : decode cX12_visitHouse 5 = .ok (.aload_n 0, 1) := by decide +kernel
theorem dX12_visitHouse_6 : decode cX12_visitHouse 6 = .ok (.sipush 296, 3) := by decide +kernel
theorem dX12_visitHouse_9 : decode cX12_visitHouse 9 = .ok (.iload_n 1, 1) := by decide +kernel
theorem dX12_visitHouse_10 : decode cX12_visitHouse 10 = .ok (.invokevirtual 328, 3) := by decide +kernel
theorem dX12_visitHouse_13 : decode cX12_visitHouse 13 = .ok (.ireturn, 1) := by decide +kernel
set_option maxRecDepth 20000 in
theorem rX12_visitHouse {a1 : Int32} {I : MI} {Q : Int32 → MI → Prop} (H : (∀ I1 : MI, I1 = up2 I 261 0 0 → Wi mX12_recordOf [.ref 261, .int 296, .int a1] I1 (fun r3 I2 => (Q r3 I2)))) : Wi mX12_visitHouse [.ref 261, .int a1] I Q := by
  show WP mX12_visitHouse 286 Rf0 0 [some (.ref 261), some (.int a1)] [] I (qi Q)
  refine w_aload_n dX12_visitHouse_0 rfl rfl ?_
  refine w_iconst (v := 0) dX12_visitHouse_1 (by decide) ?_
  refine w_putI dX12_visitHouse_2 fl_12_87 okC12 kd_261 (by decide) (by decide) rfl rfl rfl (w_up fun I1 hI => ?_)
  replace H := H I1 hI
  refine w_aload_n dX12_visitHouse_5 rfl rfl ?_
  refine w_sipush (v := 296) dX12_visitHouse_6 (by decide) ?_
  refine w_iload_n dX12_visitHouse_9 rfl rfl ?_
  refine w_callV (st := []) (As := [.int 296, .int a1]) dX12_visitHouse_10 ml_12_328 okX12_recordOf kd_261 (by decide) rfl rfl rfl (Nat.le_of_ble_eq_true rfl) (by decide) (Nat.le_of_ble_eq_true rfl) (wc_i H (fun r3 I2 H => ?_))
  exact w_iret dX12_visitHouse_13 rfl ⟨_, rfl, H⟩
theorem dX12_visitMinute_0 : decode cX12_visitMinute 0 = .ok (.aload_n 0, 1) := by decide +kernel
theorem dX12_visitMinute_1 : decode cX12_visitMinute 1 = .ok (.iconst 0, 1) := by decide +kernel
theorem dX12_visitMinute_2 : decode cX12_visitMinute 2 = .ok (.putfield 87, 3) := by decide +kernel
theorem dX12_visitMinute_5 : decode cX12_visitMinute 5 = .ok (.aload_n 0, 1) := by decide +kernel
theorem dX12_visitMinute_6 : decode cX12_visitMinute 6 = .ok (.sipush 308, 3) := by decide +kernel
theorem dX12_visitMinute_9 : decode cX12_visitMinute 9 = .ok (.iload_n 1, 1) := by decide +kernel
theorem dX12_visitMinute_10 : decode cX12_visitMinute 10 = .ok (.invokevirtual 328, 3) := by decide +kernel
theorem dX12_visitMinute_13 : decode cX12_visitMinute 13 = .ok (.ireturn, 1) := by decide +kernel
set_option maxRecDepth 20000 in
theorem rX12_visitMinute {a1 : Int32} {I : MI} {Q : Int32 → MI → Prop} (H : (∀ I1 : MI, I1 = up2 I 261 0 0 → Wi mX12_recordOf [.ref 261, .int 308, .int a1] I1 (fun r3 I2 => (Q r3 I2)))) : Wi mX12_visitMinute [.ref 261, .int a1] I Q := by
  show WP mX12_visitMinute 286 Rf0 0 [some (.ref 261), some (.int a1)] [] I (qi Q)
  refine w_aload_n dX12_visitMinute_0 rfl rfl ?_
  refine w_iconst (v := 0) dX12_visitMinute_1 (by decide) ?_
  refine w_putI dX12_visitMinute_2 fl_12_87 okC12 kd_261 (by decide) (by decide) rfl rfl rfl (w_up fun I1 hI => ?_)
  replace H := H I1 hI
  refine w_aload_n dX12_visitMinute_5 rfl rfl ?_
  refine w_sipush (v := 308) dX12_visitMinute_6 (by decide) ?_
  refine w_iload_n dX12_visitMinute_9 rfl rfl ?_
  refine w_callV (st := []) (As := [.int 308, .int a1]) dX12_visitMinute_10 ml_12_328 okX12_recordOf kd_261 (by decide) rfl rfl rfl (Nat.le_of_ble_eq_true rfl) (by decide) (Nat.le_of_ble_eq_true rfl) (wc_i H (fun r3 I2 H => ?_))
  exact w_iret dX12_visitMinute_13 rfl ⟨_, rfl, H⟩
theorem dX12_visitReturned_0 : decode cX12_visitReturned 0 = .ok (.aload_n 0, 1) := by decide +kernel
theorem dX12_visitReturned_1 : decode cX12_visitReturned 1 = .ok (.iconst 0, 1) := by decide +kernel
theorem dX12_visitReturned_2 : decode cX12_visitReturned 2 = .ok (.putfield 87, 3) := by decide +kernel
theorem dX12_visitReturned_5 : decode cX12_visitReturned 5 = .ok (.aload_n 0, 1) := by decide +kernel
theorem dX12_visitReturned_6 : decode cX12_visitReturned 6 = .ok (.sipush 320, 3) := by decide +kernel
theorem dX12_visitReturned_9 : decode cX12_visitReturned 9 = .ok (.iload_n 1, 1) := by decide +kernel
theorem dX12_visitReturned_10 : decode cX12_visitReturned 10 = .ok (.invokevirtual 328, 3) := by decide +kernel
theorem dX12_visitReturned_13 : decode cX12_visitReturned 13 = .ok (.ireturn, 1) := by decide +kernel
set_option maxRecDepth 20000 in
theorem rX12_visitReturned {a1 : Int32} {I : MI} {Q : Int32 → MI → Prop} (H : (∀ I1 : MI, I1 = up2 I 261 0 0 → Wi mX12_recordOf [.ref 261, .int 320, .int a1] I1 (fun r3 I2 => (Q r3 I2)))) : Wi mX12_visitReturned [.ref 261, .int a1] I Q := by
  show WP mX12_visitReturned 286 Rf0 0 [some (.ref 261), some (.int a1)] [] I (qi Q)
  refine w_aload_n dX12_visitReturned_0 rfl rfl ?_
  refine w_iconst (v := 0) dX12_visitReturned_1 (by decide) ?_
  refine w_putI dX12_visitReturned_2 fl_12_87 okC12 kd_261 (by decide) (by decide) rfl rfl rfl (w_up fun I1 hI => ?_)
  replace H := H I1 hI
  refine w_aload_n dX12_visitReturned_5 rfl rfl ?_
  refine w_sipush (v := 320) dX12_visitReturned_6 (by decide) ?_
  refine w_iload_n dX12_visitReturned_9 rfl rfl ?_
  refine w_callV (st := []) (As := [.int 320, .int a1]) dX12_visitReturned_10 ml_12_328 okX12_recordOf kd_261 (by decide) rfl rfl rfl (Nat.le_of_ble_eq_true rfl) (by decide) (Nat.le_of_ble_eq_true rfl) (wc_i H (fun r3 I2 H => ?_))
  exact w_iret dX12_visitReturned_13 rfl ⟨_, rfl, H⟩
theorem dX12_reloads_0 : decode cX12_reloads 0 = .ok (.aload_n 0, 1) := by decide +kernel
theorem dX12_reloads_1 : decode cX12_reloads 1 = .ok (.iconst 0, 1) := by decide +kernel
theorem dX12_reloads_2 : decode cX12_reloads 2 = .ok (.putfield 87, 3) := by decide +kernel
theorem dX12_reloads_5 : decode cX12_reloads 5 = .ok (.aload_n 0, 1) := by decide +kernel
theorem dX12_reloads_6 : decode cX12_reloads 6 = .ok (.getfield 47, 3) := by decide +kernel
theorem dX12_reloads_9 : decode cX12_reloads 9 = .ok (.sipush 295, 3) := by decide +kernel
theorem dX12_reloads_12 : decode cX12_reloads 12 = .ok (.iaload, 1) := by decide +kernel
theorem dX12_reloads_13 : decode cX12_reloads 13 = .ok (.ireturn, 1) := by decide +kernel
set_option maxRecDepth 20000 in
theorem rX12_reloads {I : MI} {Q : Int32 → MI → Prop} (H : (∀ I1 : MI, I1 = up2 I 261 0 0 → vp_in 295 332 ∧ Q (I1 274 (295 : Int32).toNatClampNeg) I1)) : Wi mX12_reloads [.ref 261] I Q := by
  show WP mX12_reloads 286 Rf0 0 [some (.ref 261)] [] I (qi Q)
  refine w_aload_n dX12_reloads_0 rfl rfl ?_
  refine w_iconst (v := 0) dX12_reloads_1 (by decide) ?_
  refine w_putI dX12_reloads_2 fl_12_87 okC12 kd_261 (by decide) (by decide) rfl rfl rfl (w_up fun I1 hI => ?_)
  replace H := H I1 hI
  refine w_aload_n dX12_reloads_5 rfl rfl ?_
  refine w_getR dX12_reloads_6 fl_12_47 okC12 kd_261 (by decide) (by decide) rfl rf_261_22 ?_
  refine w_sipush (v := 295) dX12_reloads_9 (by decide) ?_
  refine w_iald dX12_reloads_12 kd_274 (by decide) H.1 ?_
  replace H := H.2
  exact w_iret dX12_reloads_13 rfl ⟨_, rfl, H⟩
theorem dX12_setSkipped_0 : decode cX12_setSkipped 0 = .ok (.aload_n 0, 1) := by decide +kernel
theorem dX12_setSkipped_1 : decode cX12_setSkipped 1 = .ok (.iconst 0, 1) := by decide +kernel
theorem dX12_setSkipped_2 : decode cX12_setSkipped 2 = .ok (.putfield 87, 3) := by decide +kernel
theorem dX12_setSkipped_5 : decode cX12_setSkipped 5 = .ok (.iload_n 2, 1) := by decide +kernel
theorem dX12_setSkipped_6 : decode cX12_setSkipped 6 = .ok (.ifCond .eq 7, 3) := by decide +kernel
theorem dX12_setSkipped_9 : decode cX12_setSkipped 9 = .ok (.iconst 1, 1) := by decide +kernel
theorem dX12_setSkipped_10 : decode cX12_setSkipped 10 = .ok (.goto 4, 3) := by decide +kernel
theorem dX12_setSkipped_13 : decode cX12_setSkipped 13 = .ok (.iconst 0, 1) := by decide +kernel
theorem dX12_setSkipped_14 : decode cX12_setSkipped 14 = .ok (.istore_n 3, 1) := by decide +kernel
theorem dX12_setSkipped_15 : decode cX12_setSkipped 15 = .ok (.aload_n 0, 1) := by decide +kernel
theorem dX12_setSkipped_16 : decode cX12_setSkipped 16 = .ok (.iload_n 1, 1) := by decide +kernel
theorem dX12_setSkipped_17 : decode cX12_setSkipped 17 = .ok (.invokevirtual 199, 3) := by decide +kernel
theorem dX12_setSkipped_20 : decode cX12_setSkipped 20 = .ok (.ifCond .eq 17, 3) := by decide +kernel
theorem dX12_setSkipped_23 : decode cX12_setSkipped 23 = .ok (.aload_n 0, 1) := by decide +kernel
theorem dX12_setSkipped_24 : decode cX12_setSkipped 24 = .ok (.getfield 47, 3) := by decide +kernel
theorem dX12_setSkipped_27 : decode cX12_setSkipped 27 = .ok (.sipush 133, 3) := by decide +kernel
theorem dX12_setSkipped_30 : decode cX12_setSkipped 30 = .ok (.iload_n 1, 1) := by decide +kernel
theorem dX12_setSkipped_31 : decode cX12_setSkipped 31 = .ok (.iadd, 1) := by decide +kernel
theorem dX12_setSkipped_32 : decode cX12_setSkipped 32 = .ok (.iaload, 1) := by decide +kernel
theorem dX12_setSkipped_33 : decode cX12_setSkipped 33 = .ok (.iload_n 3, 1) := by decide +kernel
theorem dX12_setSkipped_34 : decode cX12_setSkipped 34 = .ok (.if_icmp .ne 5, 3) := by decide +kernel
theorem dX12_setSkipped_37 : decode cX12_setSkipped 37 = .ok (.iconst 0, 1) := by decide +kernel
theorem dX12_setSkipped_38 : decode cX12_setSkipped 38 = .ok (.ireturn, 1) := by decide +kernel
theorem dX12_setSkipped_39 : decode cX12_setSkipped 39 = .ok (.aload_n 0, 1) := by decide +kernel
theorem dX12_setSkipped_40 : decode cX12_setSkipped 40 = .ok (.invokevirtual 322, 3) := by decide +kernel
theorem dX12_setSkipped_43 : decode cX12_setSkipped 43 = .ok (.aload_n 0, 1) := by decide +kernel
theorem dX12_setSkipped_44 : decode cX12_setSkipped 44 = .ok (.getfield 47, 3) := by decide +kernel
theorem dX12_setSkipped_47 : decode cX12_setSkipped 47 = .ok (.sipush 133, 3) := by decide +kernel
theorem dX12_setSkipped_50 : decode cX12_setSkipped 50 = .ok (.iload_n 1, 1) := by decide +kernel
theorem dX12_setSkipped_51 : decode cX12_setSkipped 51 = .ok (.iadd, 1) := by decide +kernel
theorem dX12_setSkipped_52 : decode cX12_setSkipped 52 = .ok (.iload_n 3, 1) := by decide +kernel
theorem dX12_setSkipped_53 : decode cX12_setSkipped 53 = .ok (.iastore, 1) := by decide +kernel
theorem dX12_setSkipped_54 : decode cX12_setSkipped 54 = .ok (.iconst 1, 1) := by decide +kernel
theorem dX12_setSkipped_55 : decode cX12_setSkipped 55 = .ok (.ireturn, 1) := by decide +kernel
abbrev LX12_setSkipped_14 (l1 l2 t0 : Int32) (I : MI) (Q : Int32 → MI → Prop) : Prop := WP mX12_setSkipped 286 Rf0 14 [some (.ref 261), some (.int l1), some (.int l2), none] [.int t0] I (qi Q)
set_option maxRecDepth 20000 in
theorem rX12_setSkipped_14 {l1 l2 t0 : Int32} {I : MI} {Q : Int32 → MI → Prop} (H : (Wi mX12_isHouse [.ref 261, .int l1] I (fun r2 I1 => ((r2 = 0 → (Q 0 I1)) ∧ (¬ r2 = 0 → (vp_in (133 + l1) 332 ∧ (¬ (I1 274 (133 + l1).toNatClampNeg) = t0 → (Wv mX12_keepState [.ref 261] I1 (fun I3 => (vp_in (133 + l1) 332 ∧ ∀ I4 : MI, I4 = up2 I3 274 (133 + l1).toNatClampNeg t0 → Q 1 I4)))) ∧ ((I1 274 (133 + l1).toNatClampNeg) = t0 → (Q 0 I1)))))))) : LX12_setSkipped_14 l1 l2 t0 I Q := by
  show WP mX12_setSkipped 286 Rf0 14 [some (.ref 261), some (.int l1), some (.int l2), none] [.int t0] I (qi Q)
  refine w_istore_n (ls' := [some (.ref 261), some (.int l1), some (.int l2), some (.int t0)]) dX12_setSkipped_14 rfl (by decide) rfl rfl ?_
  refine w_aload_n dX12_setSkipped_15 rfl rfl ?_
  refine w_iload_n dX12_setSkipped_16 rfl rfl ?_
  refine w_callV (st := []) (As := [.int l1]) dX12_setSkipped_17 ml_12_199 okX12_isHouse kd_261 (by decide) rfl rfl rfl (Nat.le_of_ble_eq_true rfl) (by decide) (Nat.le_of_ble_eq_true rfl) (wc_i H (fun r2 I1 H => ?_))
  refine w_if_eq (t := 37) dX12_setSkipped_20 (by decide) (fun h => ?_) (fun h => ?_)
  · replace H := H.1 h
    refine w_iconst (v := 0) dX12_setSkipped_37 (by decide) ?_
    exact w_zret dX12_setSkipped_38 rfl rfl ⟨_, rfl, H⟩
  · replace H := H.2 h
    refine w_aload_n dX12_setSkipped_23 rfl rfl ?_
    refine w_getR dX12_setSkipped_24 fl_12_47 okC12 kd_261 (by decide) (by decide) rfl rf_261_22 ?_
    refine w_sipush (v := 133) dX12_setSkipped_27 (by decide) ?_
    refine w_iload_n dX12_setSkipped_30 rfl rfl ?_
    refine w_iadd dX12_setSkipped_31 ?_
    refine w_iald dX12_setSkipped_32 kd_274 (by decide) H.1 ?_
    replace H := H.2
    refine w_iload_n dX12_setSkipped_33 rfl rfl ?_
    refine w_icmp_ne (t := 39) dX12_setSkipped_34 (by decide) (fun h => ?_) (fun h => ?_)
    · replace H := H.1 h
      refine w_aload_n dX12_setSkipped_39 rfl rfl ?_
      refine w_callV (st := []) (As := []) dX12_setSkipped_40 ml_12_322 okX12_keepState kd_261 (by decide) rfl rfl rfl (Nat.le_of_ble_eq_true rfl) (by decide) (Nat.le_of_ble_eq_true rfl) (wc_v H (fun I3 H => ?_))
      refine w_aload_n dX12_setSkipped_43 rfl rfl ?_
      refine w_getR dX12_setSkipped_44 fl_12_47 okC12 kd_261 (by decide) (by decide) rfl rf_261_22 ?_
      refine w_sipush (v := 133) dX12_setSkipped_47 (by decide) ?_
      refine w_iload_n dX12_setSkipped_50 rfl rfl ?_
      refine w_iadd dX12_setSkipped_51 ?_
      refine w_iload_n dX12_setSkipped_52 rfl rfl ?_
      refine w_iast dX12_setSkipped_53 kd_274 (by decide) H.1 (w_up fun I4 hI => ?_)
      replace H := H.2 I4 hI
      refine w_iconst (v := 1) dX12_setSkipped_54 (by decide) ?_
      exact w_zret dX12_setSkipped_55 rfl rfl ⟨_, rfl, H⟩
    · replace H := H.2 h
      refine w_iconst (v := 0) dX12_setSkipped_37 (by decide) ?_
      exact w_zret dX12_setSkipped_38 rfl rfl ⟨_, rfl, H⟩
set_option maxRecDepth 20000 in
theorem rX12_setSkipped {a1 a2 : Int32} {I : MI} {Q : Int32 → MI → Prop} (H : (∀ I1 : MI, I1 = up2 I 261 0 0 → (a2 = 0 → (LX12_setSkipped_14 a1 a2 0 I1 Q)) ∧ (¬ a2 = 0 → (LX12_setSkipped_14 a1 a2 1 I1 Q)))) : Wi mX12_setSkipped [.ref 261, .int a1, .int a2] I Q := by
  show WP mX12_setSkipped 286 Rf0 0 [some (.ref 261), some (.int a1), some (.int a2), none] [] I (qi Q)
  refine w_aload_n dX12_setSkipped_0 rfl rfl ?_
  refine w_iconst (v := 0) dX12_setSkipped_1 (by decide) ?_
  refine w_putI dX12_setSkipped_2 fl_12_87 okC12 kd_261 (by decide) (by decide) rfl rfl rfl (w_up fun I1 hI => ?_)
  replace H := H I1 hI
  refine w_iload_n dX12_setSkipped_5 rfl rfl ?_
  refine w_if_eq (t := 13) dX12_setSkipped_6 (by decide) (fun h => ?_) (fun h => ?_)
  · replace H := H.1 h
    refine w_iconst (v := 0) dX12_setSkipped_13 (by decide) ?_
    skip
    exact H
  · replace H := H.2 h
    refine w_iconst (v := 1) dX12_setSkipped_9 (by decide) ?_
    refine w_goto (t := 14) dX12_setSkipped_10 (by decide) ?_
    skip
    exact H
theorem dX12_breakBottles_0 : decode cX12_breakBottles 0 = .ok (.aload_n 0, 1) := by decide +kernel
theorem dX12_breakBottles_1 : decode cX12_breakBottles 1 = .ok (.iconst 0, 1) := by decide +kernel
theorem dX12_breakBottles_2 : decode cX12_breakBottles 2 = .ok (.putfield 87, 3) := by decide +kernel
theorem dX12_breakBottles_5 : decode cX12_breakBottles 5 = .ok (.aload_n 0, 1) := by decide +kernel
theorem dX12_breakBottles_6 : decode cX12_breakBottles 6 = .ok (.iload_n 1, 1) := by decide +kernel
theorem dX12_breakBottles_7 : decode cX12_breakBottles 7 = .ok (.invokevirtual 199, 3) := by decide +kernel
theorem dX12_breakBottles_10 : decode cX12_breakBottles 10 = .ok (.ifCond .eq 23, 3) := by decide +kernel
theorem dX12_breakBottles_13 : decode cX12_breakBottles 13 = .ok (.iload_n 2, 1) := by decide +kernel
theorem dX12_breakBottles_14 : decode cX12_breakBottles 14 = .ok (.i2l, 1) := by decide +kernel
theorem dX12_breakBottles_15 : decode cX12_breakBottles 15 = .ok (.lconst 1, 1) := by decide +kernel
theorem dX12_breakBottles_16 : decode cX12_breakBottles 16 = .ok (.aload_n 0, 1) := by decide +kernel
theorem dX12_breakBottles_17 : decode cX12_breakBottles 17 = .ok (.getfield 47, 3) := by decide +kernel
theorem dX12_breakBottles_20 : decode cX12_breakBottles 20 = .ok (.sipush 145, 3) := by decide +kernel
theorem dX12_breakBottles_23 : decode cX12_breakBottles 23 = .ok (.iload_n 1, 1) := by decide +kernel
theorem dX12_breakBottles_24 : decode cX12_breakBottles 24 = .ok (.iadd, 1) := by decide +kernel
theorem dX12_breakBottles_25 : decode cX12_breakBottles 25 = .ok (.iaload, 1) := by decide +kernel
theorem dX12_breakBottles_26 : decode cX12_breakBottles 26 = .ok (.i2l, 1) := by decide +kernel
theorem dX12_breakBottles_27 : decode cX12_breakBottles 27 = .ok (.invokestatic 118, 3) := by decide +kernel
theorem dX12_breakBottles_30 : decode cX12_breakBottles 30 = .ok (.ifCond .ne 5, 3) := by decide +kernel
theorem dX12_breakBottles_33 : decode cX12_breakBottles 33 = .ok (.iconst (-1), 1) := by decide +kernel
theorem dX12_breakBottles_34 : decode cX12_breakBottles 34 = .ok (.ireturn, 1) := by decide +kernel
theorem dX12_breakBottles_35 : decode cX12_breakBottles 35 = .ok (.aload_n 0, 1) := by decide +kernel
theorem dX12_breakBottles_36 : decode cX12_breakBottles 36 = .ok (.invokevirtual 322, 3) := by decide +kernel
theorem dX12_breakBottles_39 : decode cX12_breakBottles 39 = .ok (.aload_n 0, 1) := by decide +kernel
theorem dX12_breakBottles_40 : decode cX12_breakBottles 40 = .ok (.getfield 47, 3) := by decide +kernel
theorem dX12_breakBottles_43 : decode cX12_breakBottles 43 = .ok (.sipush 145, 3) := by decide +kernel
theorem dX12_breakBottles_46 : decode cX12_breakBottles 46 = .ok (.iload_n 1, 1) := by decide +kernel
theorem dX12_breakBottles_47 : decode cX12_breakBottles 47 = .ok (.iadd, 1) := by decide +kernel
theorem dX12_breakBottles_48 : decode cX12_breakBottles 48 = .ok (.dup2, 1) := by decide +kernel
theorem dX12_breakBottles_49 : decode cX12_breakBottles 49 = .ok (.iaload, 1) := by decide +kernel
theorem dX12_breakBottles_50 : decode cX12_breakBottles 50 = .ok (.iload_n 2, 1) := by decide +kernel
theorem dX12_breakBottles_51 : decode cX12_breakBottles 51 = .ok (.isub, 1) := by decide +kernel
theorem dX12_breakBottles_52 : decode cX12_breakBottles 52 = .ok (.iastore, 1) := by decide +kernel
theorem dX12_breakBottles_53 : decode cX12_breakBottles 53 = .ok (.aload_n 0, 1) := by decide +kernel
theorem dX12_breakBottles_54 : decode cX12_breakBottles 54 = .ok (.getfield 47, 3) := by decide +kernel
theorem dX12_breakBottles_57 : decode cX12_breakBottles 57 = .ok (.sipush 181, 3) := by decide +kernel
theorem dX12_breakBottles_60 : decode cX12_breakBottles 60 = .ok (.iload_n 1, 1) := by decide +kernel
theorem dX12_breakBottles_61 : decode cX12_breakBottles 61 = .ok (.iadd, 1) := by decide +kernel
theorem dX12_breakBottles_62 : decode cX12_breakBottles 62 = .ok (.dup2, 1) := by decide +kernel
theorem dX12_breakBottles_63 : decode cX12_breakBottles 63 = .ok (.iaload, 1) := by decide +kernel
theorem dX12_breakBottles_64 : decode cX12_breakBottles 64 = .ok (.iload_n 2, 1) := by decide +kernel
theorem dX12_breakBottles_65 : decode cX12_breakBottles 65 = .ok (.iadd, 1) := by decide +kernel
theorem dX12_breakBottles_66 : decode cX12_breakBottles 66 = .ok (.iastore, 1) := by decide +kernel
theorem dX12_breakBottles_67 : decode cX12_breakBottles 67 = .ok (.aload_n 0, 1) := by decide +kernel
theorem dX12_breakBottles_68 : decode cX12_breakBottles 68 = .ok (.getfield 47, 3) := by decide +kernel
theorem dX12_breakBottles_71 : decode cX12_breakBottles 71 = .ok (.sipush 145, 3) := by decide +kernel
theorem dX12_breakBottles_74 : decode cX12_breakBottles 74 = .ok (.iload_n 1, 1) := by decide +kernel
theorem dX12_breakBottles_75 : decode cX12_breakBottles 75 = .ok (.iadd, 1) := by decide +kernel
theorem dX12_breakBottles_76 : decode cX12_breakBottles 76 = .ok (.iaload, 1) := by decide +kernel
theorem dX12_breakBottles_77 : decode cX12_breakBottles 77 = .ok (.ireturn, 1) := by decide +kernel
set_option maxRecDepth 20000 in
theorem rX12_breakBottles {a1 a2 : Int32} {I : MI} {Q : Int32 → MI → Prop} (H : (∀ I1 : MI, I1 = up2 I 261 0 0 → Wi mX12_isHouse [.ref 261, .int a1] I1 (fun r3 I2 => ((r3 = 0 → (Q (-1) I2)) ∧ (¬ r3 = 0 → (vp_in (145 + a1) 332 ∧ Wi mX12_within [.long a2.toInt64, .long 1, .long ((I2 274 (145 + a1).toNatClampNeg).toInt64)] I2 (fun r5 I4 => ((¬ r5 = 0 → (Wv mX12_keepState [.ref 261] I4 (fun I6 => (vp_in (145 + a1) 332 ∧ vp_in (145 + a1) 332 ∧ ∀ I7 : MI, I7 = up2 I6 274 (145 + a1).toNatClampNeg ((I6 274 (145 + a1).toNatClampNeg) - a2) → vp_in (181 + a1) 332 ∧ vp_in (181 + a1) 332 ∧ ∀ I8 : MI, I8 = up2 I7 274 (181 + a1).toNatClampNeg ((I7 274 (181 + a1).toNatClampNeg) + a2) → vp_in (145 + a1) 332 ∧ Q (I8 274 (145 + a1).toNatClampNeg) I8)))) ∧ (r5 = 0 → (Q (-1) I4)))))))))) : Wi mX12_breakBottles [.ref 261, .int a1, .int a2] I Q := by
  show WP mX12_breakBottles 286 Rf0 0 [some (.ref 261), some (.int a1), some (.int a2)] [] I (qi Q)
  refine w_aload_n dX12_breakBottles_0 rfl rfl ?_
  refine w_iconst (v := 0) dX12_breakBottles_1 (by decide) ?_
  refine w_putI dX12_breakBottles_2 fl_12_87 okC12 kd_261 (by decide) (by decide) rfl rfl rfl (w_up fun I1 hI => ?_)
  replace H := H I1 hI
  refine w_aload_n dX12_breakBottles_5 rfl rfl ?_
  refine w_iload_n dX12_breakBottles_6 rfl rfl ?_
  refine w_callV (st := []) (As := [.int a1]) dX12_breakBottles_7 ml_12_199 okX12_isHouse kd_261 (by decide) rfl rfl rfl (Nat.le_of_ble_eq_true rfl) (by decide) (Nat.le_of_ble_eq_true rfl) (wc_i H (fun r3 I2 H => ?_))
  refine w_if_eq (t := 33) dX12_breakBottles_10 (by decide) (fun h => ?_) (fun h => ?_)
  · replace H := H.1 h
    refine w_iconst (v := (-1)) dX12_breakBottles_33 (by decide) ?_
    exact w_iret dX12_breakBottles_34 rfl ⟨_, rfl, H⟩
  · replace H := H.2 h
    refine w_iload_n dX12_breakBottles_13 rfl rfl ?_
    refine w_i2l dX12_breakBottles_14 ?_
    refine w_lconst (v := 1) dX12_breakBottles_15 (by decide) ?_
    refine w_aload_n dX12_breakBottles_16 rfl rfl ?_
    refine w_getR dX12_breakBottles_17 fl_12_47 okC12 kd_261 (by decide) (by decide) rfl rf_261_22 ?_
    refine w_sipush (v := 145) dX12_breakBottles_20 (by decide) ?_
    refine w_iload_n dX12_breakBottles_23 rfl rfl ?_
    refine w_iadd dX12_breakBottles_24 ?_
    refine w_iald dX12_breakBottles_25 kd_274 (by decide) H.1 ?_
    replace H := H.2
    refine w_i2l dX12_breakBottles_26 ?_
    refine w_callS (st := []) (As := [.long a2.toInt64, .long 1, .long ((I2 274 (145 + a1).toNatClampNeg).toInt64)]) dX12_breakBottles_27 ml_12_118 okX12_within rfl (Nat.le_of_ble_eq_true rfl) (by decide) (Nat.le_of_ble_eq_true rfl) (wc_i H (fun r5 I4 H => ?_))
    refine w_if_ne (t := 35) dX12_breakBottles_30 (by decide) (fun h => ?_) (fun h => ?_)
    · replace H := H.1 h
      refine w_aload_n dX12_breakBottles_35 rfl rfl ?_
      refine w_callV (st := []) (As := []) dX12_breakBottles_36 ml_12_322 okX12_keepState kd_261 (by decide) rfl rfl rfl (Nat.le_of_ble_eq_true rfl) (by decide) (Nat.le_of_ble_eq_true rfl) (wc_v H (fun I6 H => ?_))
      refine w_aload_n dX12_breakBottles_39 rfl rfl ?_
      refine w_getR dX12_breakBottles_40 fl_12_47 okC12 kd_261 (by decide) (by decide) rfl rf_261_22 ?_
      refine w_sipush (v := 145) dX12_breakBottles_43 (by decide) ?_
      refine w_iload_n dX12_breakBottles_46 rfl rfl ?_
      refine w_iadd dX12_breakBottles_47 ?_
      refine w_dup2 dX12_breakBottles_48 rfl rfl ?_
      refine w_iald dX12_breakBottles_49 kd_274 (by decide) H.1 ?_
      replace H := H.2
      refine w_iload_n dX12_breakBottles_50 rfl rfl ?_
      refine w_isub dX12_breakBottles_51 ?_
      refine w_iast dX12_breakBottles_52 kd_274 (by decide) H.1 (w_up fun I7 hI => ?_)
      replace H := H.2 I7 hI
      refine w_aload_n dX12_breakBottles_53 rfl rfl ?_
      refine w_getR dX12_breakBottles_54 fl_12_47 okC12 kd_261 (by decide) (by decide) rfl rf_261_22 ?_
      refine w_sipush (v := 181) dX12_breakBottles_57 (by decide) ?_
      refine w_iload_n dX12_breakBottles_60 rfl rfl ?_
      refine w_iadd dX12_breakBottles_61 ?_
      refine w_dup2 dX12_breakBottles_62 rfl rfl ?_
      refine w_iald dX12_breakBottles_63 kd_274 (by decide) H.1 ?_
      replace H := H.2
      refine w_iload_n dX12_breakBottles_64 rfl rfl ?_
      refine w_iadd dX12_breakBottles_65 ?_
      refine w_iast dX12_breakBottles_66 kd_274 (by decide) H.1 (w_up fun I8 hI => ?_)
      replace H := H.2 I8 hI
      refine w_aload_n dX12_breakBottles_67 rfl rfl ?_
      refine w_getR dX12_breakBottles_68 fl_12_47 okC12 kd_261 (by decide) (by decide) rfl rf_261_22 ?_
      refine w_sipush (v := 145) dX12_breakBottles_71 (by decide) ?_
      refine w_iload_n dX12_breakBottles_74 rfl rfl ?_
      refine w_iadd dX12_breakBottles_75 ?_
      refine w_iald dX12_breakBottles_76 kd_274 (by decide) H.1 ?_
      replace H := H.2
      exact w_iret dX12_breakBottles_77 rfl ⟨_, rfl, H⟩
    · replace H := H.2 h
      refine w_iconst (v := (-1)) dX12_breakBottles_33 (by decide) ?_
      exact w_iret dX12_breakBottles_34 rfl ⟨_, rfl, H⟩
theorem dX12_exchange_0 : decode cX12_exchange 0 = .ok (.aload_n 0, 1) := by decide +kernel
theorem dX12_exchange_1 : decode cX12_exchange 1 = .ok (.invokevirtual 322, 3) := by decide +kernel
theorem dX12_exchange_4 : decode cX12_exchange 4 = .ok (.aload_n 0, 1) := by decide +kernel
theorem dX12_exchange_5 : decode cX12_exchange 5 = .ok (.getfield 47, 3) := by decide +kernel
theorem dX12_exchange_8 : decode cX12_exchange 8 = .ok (.iload_n 1, 1) := by decide +kernel
theorem dX12_exchange_9 : decode cX12_exchange 9 = .ok (.iaload, 1) := by decide +kernel
theorem dX12_exchange_10 : decode cX12_exchange 10 = .ok (.istore_n 3, 1) := by decide +kernel
theorem dX12_exchange_11 : decode cX12_exchange 11 = .ok (.aload_n 0, 1) := by decide +kernel
theorem dX12_exchange_12 : decode cX12_exchange 12 = .ok (.getfield 47, 3) := by decide +kernel
theorem dX12_exchange_15 : decode cX12_exchange 15 = .ok (.iload_n 1, 1) := by decide +kernel
theorem dX12_exchange_16 : decode cX12_exchange 16 = .ok (.iload_n 2, 1) := by decide +kernel
theorem dX12_exchange_17 : decode cX12_exchange 17 = .ok (.iastore, 1) := by decide +kernel
theorem dX12_exchange_18 : decode cX12_exchange 18 = .ok (.iload_n 3, 1) := by decide +kernel
theorem dX12_exchange_19 : decode cX12_exchange 19 = .ok (.ireturn, 1) := by decide +kernel
set_option maxRecDepth 20000 in
theorem rX12_exchange {a1 a2 : Int32} {I : MI} {Q : Int32 → MI → Prop} (H : (Wv mX12_keepState [.ref 261] I (fun I1 => (vp_in a1 332 ∧ vp_in a1 332 ∧ ∀ I2 : MI, I2 = up2 I1 274 a1.toNatClampNeg a2 → Q (I1 274 a1.toNatClampNeg) I2)))) : Wi mX12_exchange [.ref 261, .int a1, .int a2] I Q := by
  show WP mX12_exchange 286 Rf0 0 [some (.ref 261), some (.int a1), some (.int a2), none] [] I (qi Q)
  refine w_aload_n dX12_exchange_0 rfl rfl ?_
  refine w_callV (st := []) (As := []) dX12_exchange_1 ml_12_322 okX12_keepState kd_261 (by decide) rfl rfl rfl (Nat.le_of_ble_eq_true rfl) (by decide) (Nat.le_of_ble_eq_true rfl) (wc_v H (fun I1 H => ?_))
  refine w_aload_n dX12_exchange_4 rfl rfl ?_
  refine w_getR dX12_exchange_5 fl_12_47 okC12 kd_261 (by decide) (by decide) rfl rf_261_22 ?_
  refine w_iload_n dX12_exchange_8 rfl rfl ?_
  refine w_iald dX12_exchange_9 kd_274 (by decide) H.1 ?_
  replace H := H.2
  refine w_istore_n (ls' := [some (.ref 261), some (.int a1), some (.int a2), some (.int (I1 274 a1.toNatClampNeg))]) dX12_exchange_10 rfl (by decide) rfl rfl ?_
  refine w_aload_n dX12_exchange_11 rfl rfl ?_
  refine w_getR dX12_exchange_12 fl_12_47 okC12 kd_261 (by decide) (by decide) rfl rf_261_22 ?_
  refine w_iload_n dX12_exchange_15 rfl rfl ?_
  refine w_iload_n dX12_exchange_16 rfl rfl ?_
  refine w_iast dX12_exchange_17 kd_274 (by decide) H.1 (w_up fun I2 hI => ?_)
  replace H := H.2 I2 hI
  refine w_iload_n dX12_exchange_18 rfl rfl ?_
  exact w_iret dX12_exchange_19 rfl ⟨_, rfl, H⟩
theorem dX12_setOrder_0 : decode cX12_setOrder 0 = .ok (.aload_n 0, 1) := by decide +kernel
theorem dX12_setOrder_1 : decode cX12_setOrder 1 = .ok (.iconst 0, 1) := by decide +kernel
theorem dX12_setOrder_2 : decode cX12_setOrder 2 = .ok (.putfield 87, 3) := by decide +kernel
theorem dX12_setOrder_5 : decode cX12_setOrder 5 = .ok (.aload_n 0, 1) := by decide +kernel
theorem dX12_setOrder_6 : decode cX12_setOrder 6 = .ok (.iload_n 1, 1) := by decide +kernel
theorem dX12_setOrder_7 : decode cX12_setOrder 7 = .ok (.invokevirtual 199, 3) := by decide +kernel
theorem dX12_setOrder_10 : decode cX12_setOrder 10 = .ok (.ifCond .eq 43, 3) := by decide +kernel
theorem dX12_setOrder_13 : decode cX12_setOrder 13 = .ok (.iload_n 2, 1) := by decide +kernel
theorem dX12_setOrder_14 : decode cX12_setOrder 14 = .ok (.i2l, 1) := by decide +kernel
theorem dX12_setOrder_15 : decode cX12_setOrder 15 = .ok (.lconst 0, 1) := by decide +kernel
theorem dX12_setOrder_16 : decode cX12_setOrder 16 = .ok (.ldc2_w 203, 3) := by decide +kernel
theorem dX12_setOrder_19 : decode cX12_setOrder 19 = .ok (.invokestatic 118, 3) := by decide +kernel
theorem dX12_setOrder_22 : decode cX12_setOrder 22 = .ok (.ifCond .eq 31, 3) := by decide +kernel
theorem dX12_setOrder_25 : decode cX12_setOrder 25 = .ok (.iload_n 3, 1) := by decide +kernel
theorem dX12_setOrder_26 : decode cX12_setOrder 26 = .ok (.i2l, 1) := by decide +kernel
theorem dX12_setOrder_27 : decode cX12_setOrder 27 = .ok (.lconst 0, 1) := by decide +kernel
theorem dX12_setOrder_28 : decode cX12_setOrder 28 = .ok (.ldc2_w 331, 3) := by decide +kernel
theorem dX12_setOrder_31 : decode cX12_setOrder 31 = .ok (.invokestatic 118, 3) := by decide +kernel
theorem dX12_setOrder_34 : decode cX12_setOrder 34 = .ok (.ifCond .eq 19, 3) := by decide +kernel
theorem dX12_setOrder_37 : decode cX12_setOrder 37 = .ok (.aload_n 0, 1) := by decide +kernel
theorem dX12_setOrder_38 : decode cX12_setOrder 38 = .ok (.iconst 1, 1) := by decide +kernel
theorem dX12_setOrder_39 : decode cX12_setOrder 39 = .ok (.bipush 7, 2) := by decide +kernel
theorem dX12_setOrder_41 : decode cX12_setOrder 41 = .ok (.iload_n 1, 1) := by decide +kernel
theorem dX12_setOrder_42 : decode cX12_setOrder 42 = .ok (.imul, 1) := by decide +kernel
theorem dX12_setOrder_43 : decode cX12_setOrder 43 = .ok (.iadd, 1) := by decide +kernel
theorem dX12_setOrder_44 : decode cX12_setOrder 44 = .ok (.iload_n 2, 1) := by decide +kernel
theorem dX12_setOrder_45 : decode cX12_setOrder 45 = .ok (.iadd, 1) := by decide +kernel
theorem dX12_setOrder_46 : decode cX12_setOrder 46 = .ok (.iload_n 3, 1) := by decide +kernel
theorem dX12_setOrder_47 : decode cX12_setOrder 47 = .ok (.invokevirtual 333, 3) := by decide +kernel
theorem dX12_setOrder_50 : decode cX12_setOrder 50 = .ok (.goto 4, 3) := by decide +kernel
theorem dX12_setOrder_53 : decode cX12_setOrder 53 = .ok (.iconst (-1), 1) := by decide +kernel
theorem dX12_setOrder_54 : decode cX12_setOrder 54 = .ok (.ireturn, 1) := by decide +kernel
set_option maxRecDepth 20000 in
theorem rX12_setOrder {a1 a2 a3 : Int32} {I : MI} {Q : Int32 → MI → Prop} (H : (∀ I1 : MI, I1 = up2 I 261 0 0 → Wi mX12_isHouse [.ref 261, .int a1] I1 (fun r3 I2 => ((r3 = 0 → (Q (-1) I2)) ∧ (¬ r3 = 0 → (Wi mX12_within [.long a2.toInt64, .long 0, .long 6] I2 (fun r5 I4 => ((r5 = 0 → (Q (-1) I4)) ∧ (¬ r5 = 0 → (Wi mX12_within [.long a3.toInt64, .long 0, .long 9] I4 (fun r7 I6 => ((r7 = 0 → (Q (-1) I6)) ∧ (¬ r7 = 0 → (Wi mX12_exchange [.ref 261, .int ((1 + (7 * a1)) + a2), .int a3] I6 (fun r9 I8 => (Q r9 I8)))))))))))))))) : Wi mX12_setOrder [.ref 261, .int a1, .int a2, .int a3] I Q := by
  show WP mX12_setOrder 286 Rf0 0 [some (.ref 261), some (.int a1), some (.int a2), some (.int a3)] [] I (qi Q)
  refine w_aload_n dX12_setOrder_0 rfl rfl ?_
  refine w_iconst (v := 0) dX12_setOrder_1 (by decide) ?_
  refine w_putI dX12_setOrder_2 fl_12_87 okC12 kd_261 (by decide) (by decide) rfl rfl rfl (w_up fun I1 hI => ?_)
  replace H := H I1 hI
  refine w_aload_n dX12_setOrder_5 rfl rfl ?_
  refine w_iload_n dX12_setOrder_6 rfl rfl ?_
  refine w_callV (st := []) (As := [.int a1]) dX12_setOrder_7 ml_12_199 okX12_isHouse kd_261 (by decide) rfl rfl rfl (Nat.le_of_ble_eq_true rfl) (by decide) (Nat.le_of_ble_eq_true rfl) (wc_i H (fun r3 I2 H => ?_))
  refine w_if_eq (t := 53) dX12_setOrder_10 (by decide) (fun h => ?_) (fun h => ?_)
  · replace H := H.1 h
    refine w_iconst (v := (-1)) dX12_setOrder_53 (by decide) ?_
    exact w_iret dX12_setOrder_54 rfl ⟨_, rfl, H⟩
  · replace H := H.2 h
    refine w_iload_n dX12_setOrder_13 rfl rfl ?_
    refine w_i2l dX12_setOrder_14 ?_
    refine w_lconst (v := 0) dX12_setOrder_15 (by decide) ?_
    refine w_ldc2 (v := 6) dX12_setOrder_16 kl_12_203 ?_
    refine w_callS (st := []) (As := [.long a2.toInt64, .long 0, .long 6]) dX12_setOrder_19 ml_12_118 okX12_within rfl (Nat.le_of_ble_eq_true rfl) (by decide) (Nat.le_of_ble_eq_true rfl) (wc_i H (fun r5 I4 H => ?_))
    refine w_if_eq (t := 53) dX12_setOrder_22 (by decide) (fun h => ?_) (fun h => ?_)
    · replace H := H.1 h
      refine w_iconst (v := (-1)) dX12_setOrder_53 (by decide) ?_
      exact w_iret dX12_setOrder_54 rfl ⟨_, rfl, H⟩
    · replace H := H.2 h
      refine w_iload_n dX12_setOrder_25 rfl rfl ?_
      refine w_i2l dX12_setOrder_26 ?_
      refine w_lconst (v := 0) dX12_setOrder_27 (by decide) ?_
      refine w_ldc2 (v := 9) dX12_setOrder_28 kl_12_331 ?_
      refine w_callS (st := []) (As := [.long a3.toInt64, .long 0, .long 9]) dX12_setOrder_31 ml_12_118 okX12_within rfl (Nat.le_of_ble_eq_true rfl) (by decide) (Nat.le_of_ble_eq_true rfl) (wc_i H (fun r7 I6 H => ?_))
      refine w_if_eq (t := 53) dX12_setOrder_34 (by decide) (fun h => ?_) (fun h => ?_)
      · replace H := H.1 h
        refine w_iconst (v := (-1)) dX12_setOrder_53 (by decide) ?_
        exact w_iret dX12_setOrder_54 rfl ⟨_, rfl, H⟩
      · replace H := H.2 h
        refine w_aload_n dX12_setOrder_37 rfl rfl ?_
        refine w_iconst (v := 1) dX12_setOrder_38 (by decide) ?_
        refine w_bipush (v := 7) dX12_setOrder_39 (by decide) ?_
        refine w_iload_n dX12_setOrder_41 rfl rfl ?_
        refine w_imul dX12_setOrder_42 ?_
        refine w_iadd dX12_setOrder_43 ?_
        refine w_iload_n dX12_setOrder_44 rfl rfl ?_
        refine w_iadd dX12_setOrder_45 ?_
        refine w_iload_n dX12_setOrder_46 rfl rfl ?_
        refine w_callV (st := []) (As := [.int ((1 + (7 * a1)) + a2), .int a3]) dX12_setOrder_47 ml_12_333 okX12_exchange kd_261 (by decide) rfl rfl rfl (Nat.le_of_ble_eq_true rfl) (by decide) (Nat.le_of_ble_eq_true rfl) (wc_i H (fun r9 I8 H => ?_))
        refine w_goto (t := 54) dX12_setOrder_50 (by decide) ?_
        exact w_iret dX12_setOrder_54 rfl ⟨_, rfl, H⟩
theorem dX12_setKeep_0 : decode cX12_setKeep 0 = .ok (.aload_n 0, 1) := by decide +kernel
theorem dX12_setKeep_1 : decode cX12_setKeep 1 = .ok (.iconst 0, 1) := by decide +kernel
theorem dX12_setKeep_2 : decode cX12_setKeep 2 = .ok (.putfield 87, 3) := by decide +kernel
theorem dX12_setKeep_5 : decode cX12_setKeep 5 = .ok (.aload_n 0, 1) := by decide +kernel
theorem dX12_setKeep_6 : decode cX12_setKeep 6 = .ok (.iload_n 1, 1) := by decide +kernel
theorem dX12_setKeep_7 : decode cX12_setKeep 7 = .ok (.invokevirtual 199, 3) := by decide +kernel
theorem dX12_setKeep_10 : decode cX12_setKeep 10 = .ok (.ifCond .eq 27, 3) := by decide +kernel
theorem dX12_setKeep_13 : decode cX12_setKeep 13 = .ok (.iload_n 2, 1) := by decide +kernel
theorem dX12_setKeep_14 : decode cX12_setKeep 14 = .ok (.i2l, 1) := by decide +kernel
theorem dX12_setKeep_15 : decode cX12_setKeep 15 = .ok (.lconst 0, 1) := by decide +kernel
theorem dX12_setKeep_16 : decode cX12_setKeep 16 = .ok (.ldc2_w 331, 3) := by decide +kernel
theorem dX12_setKeep_19 : decode cX12_setKeep 19 = .ok (.invokestatic 118, 3) := by decide +kernel
theorem dX12_setKeep_22 : decode cX12_setKeep 22 = .ok (.ifCond .eq 15, 3) := by decide +kernel
theorem dX12_setKeep_25 : decode cX12_setKeep 25 = .ok (.aload_n 0, 1) := by decide +kernel
theorem dX12_setKeep_26 : decode cX12_setKeep 26 = .ok (.bipush 85, 2) := by decide +kernel
theorem dX12_setKeep_28 : decode cX12_setKeep 28 = .ok (.iload_n 1, 1) := by decide +kernel
theorem dX12_setKeep_29 : decode cX12_setKeep 29 = .ok (.iadd, 1) := by decide +kernel
theorem dX12_setKeep_30 : decode cX12_setKeep 30 = .ok (.iload_n 2, 1) := by decide +kernel
theorem dX12_setKeep_31 : decode cX12_setKeep 31 = .ok (.invokevirtual 333, 3) := by decide +kernel
theorem dX12_setKeep_34 : decode cX12_setKeep 34 = .ok (.goto 4, 3) := by decide +kernel
theorem dX12_setKeep_37 : decode cX12_setKeep 37 = .ok (.iconst (-1), 1) := by decide +kernel
theorem dX12_setKeep_38 : decode cX12_setKeep 38 = .ok (.ireturn, 1) := by decide +kernel
set_option maxRecDepth 20000 in
theorem rX12_setKeep {a1 a2 : Int32} {I : MI} {Q : Int32 → MI → Prop} (H : (∀ I1 : MI, I1 = up2 I 261 0 0 → Wi mX12_isHouse [.ref 261, .int a1] I1 (fun r3 I2 => ((r3 = 0 → (Q (-1) I2)) ∧ (¬ r3 = 0 → (Wi mX12_within [.long a2.toInt64, .long 0, .long 9] I2 (fun r5 I4 => ((r5 = 0 → (Q (-1) I4)) ∧ (¬ r5 = 0 → (Wi mX12_exchange [.ref 261, .int (85 + a1), .int a2] I4 (fun r7 I6 => (Q r7 I6)))))))))))) : Wi mX12_setKeep [.ref 261, .int a1, .int a2] I Q := by
  show WP mX12_setKeep 286 Rf0 0 [some (.ref 261), some (.int a1), some (.int a2)] [] I (qi Q)
  refine w_aload_n dX12_setKeep_0 rfl rfl ?_
  refine w_iconst (v := 0) dX12_setKeep_1 (by decide) ?_
  refine w_putI dX12_setKeep_2 fl_12_87 okC12 kd_261 (by decide) (by decide) rfl rfl rfl (w_up fun I1 hI => ?_)
  replace H := H I1 hI
  refine w_aload_n dX12_setKeep_5 rfl rfl ?_
  refine w_iload_n dX12_setKeep_6 rfl rfl ?_
  refine w_callV (st := []) (As := [.int a1]) dX12_setKeep_7 ml_12_199 okX12_isHouse kd_261 (by decide) rfl rfl rfl (Nat.le_of_ble_eq_true rfl) (by decide) (Nat.le_of_ble_eq_true rfl) (wc_i H (fun r3 I2 H => ?_))
  refine w_if_eq (t := 37) dX12_setKeep_10 (by decide) (fun h => ?_) (fun h => ?_)
  · replace H := H.1 h
    refine w_iconst (v := (-1)) dX12_setKeep_37 (by decide) ?_
    exact w_iret dX12_setKeep_38 rfl ⟨_, rfl, H⟩
  · replace H := H.2 h
    refine w_iload_n dX12_setKeep_13 rfl rfl ?_
    refine w_i2l dX12_setKeep_14 ?_
    refine w_lconst (v := 0) dX12_setKeep_15 (by decide) ?_
    refine w_ldc2 (v := 9) dX12_setKeep_16 kl_12_331 ?_
    refine w_callS (st := []) (As := [.long a2.toInt64, .long 0, .long 9]) dX12_setKeep_19 ml_12_118 okX12_within rfl (Nat.le_of_ble_eq_true rfl) (by decide) (Nat.le_of_ble_eq_true rfl) (wc_i H (fun r5 I4 H => ?_))
    refine w_if_eq (t := 37) dX12_setKeep_22 (by decide) (fun h => ?_) (fun h => ?_)
    · replace H := H.1 h
      refine w_iconst (v := (-1)) dX12_setKeep_37 (by decide) ?_
      exact w_iret dX12_setKeep_38 rfl ⟨_, rfl, H⟩
    · replace H := H.2 h
      refine w_aload_n dX12_setKeep_25 rfl rfl ?_
      refine w_bipush (v := 85) dX12_setKeep_26 (by decide) ?_
      refine w_iload_n dX12_setKeep_28 rfl rfl ?_
      refine w_iadd dX12_setKeep_29 ?_
      refine w_iload_n dX12_setKeep_30 rfl rfl ?_
      refine w_callV (st := []) (As := [.int (85 + a1), .int a2]) dX12_setKeep_31 ml_12_333 okX12_exchange kd_261 (by decide) rfl rfl rfl (Nat.le_of_ble_eq_true rfl) (by decide) (Nat.le_of_ble_eq_true rfl) (wc_i H (fun r7 I6 H => ?_))
      refine w_goto (t := 38) dX12_setKeep_34 (by decide) ?_
      exact w_iret dX12_setKeep_38 rfl ⟨_, rfl, H⟩
theorem dX12_setGate_0 : decode cX12_setGate 0 = .ok (.aload_n 0, 1) := by decide +kernel
theorem dX12_setGate_1 : decode cX12_setGate 1 = .ok (.iconst 0, 1) := by decide +kernel
theorem dX12_setGate_2 : decode cX12_setGate 2 = .ok (.putfield 87, 3) := by decide +kernel
theorem dX12_setGate_5 : decode cX12_setGate 5 = .ok (.aload_n 0, 1) := by decide +kernel
theorem dX12_setGate_6 : decode cX12_setGate 6 = .ok (.iload_n 1, 1) := by decide +kernel
theorem dX12_setGate_7 : decode cX12_setGate 7 = .ok (.invokevirtual 218, 3) := by decide +kernel
theorem dX12_setGate_10 : decode cX12_setGate 10 = .ok (.ifCond .eq 30, 3) := by decide +kernel
theorem dX12_setGate_13 : decode cX12_setGate 13 = .ok (.iload_n 2, 1) := by decide +kernel
theorem dX12_setGate_14 : decode cX12_setGate 14 = .ok (.i2l, 1) := by decide +kernel
theorem dX12_setGate_15 : decode cX12_setGate 15 = .ok (.lconst 0, 1) := by decide +kernel
theorem dX12_setGate_16 : decode cX12_setGate 16 = .ok (.ldc2_w 336, 3) := by decide +kernel
theorem dX12_setGate_19 : decode cX12_setGate 19 = .ok (.invokestatic 118, 3) := by decide +kernel
theorem dX12_setGate_22 : decode cX12_setGate 22 = .ok (.ifCond .eq 18, 3) := by decide +kernel
theorem dX12_setGate_25 : decode cX12_setGate 25 = .ok (.iload_n 3, 1) := by decide +kernel
theorem dX12_setGate_26 : decode cX12_setGate 26 = .ok (.i2l, 1) := by decide +kernel
theorem dX12_setGate_27 : decode cX12_setGate 27 = .ok (.iload_n 2, 1) := by decide +kernel
theorem dX12_setGate_28 : decode cX12_setGate 28 = .ok (.iconst 1, 1) := by decide +kernel
theorem dX12_setGate_29 : decode cX12_setGate 29 = .ok (.iadd, 1) := by decide +kernel
theorem dX12_setGate_30 : decode cX12_setGate 30 = .ok (.i2l, 1) := by decide +kernel
theorem dX12_setGate_31 : decode cX12_setGate 31 = .ok (.ldc2_w 338, 3) := by decide +kernel
theorem dX12_setGate_34 : decode cX12_setGate 34 = .ok (.invokestatic 118, 3) := by decide +kernel
theorem dX12_setGate_37 : decode cX12_setGate 37 = .ok (.ifCond .ne 5, 3) := by decide +kernel
theorem dX12_setGate_40 : decode cX12_setGate 40 = .ok (.iconst 0, 1) := by decide +kernel
theorem dX12_setGate_41 : decode cX12_setGate 41 = .ok (.ireturn, 1) := by decide +kernel
theorem dX12_setGate_42 : decode cX12_setGate 42 = .ok (.aload_n 0, 1) := by decide +kernel
theorem dX12_setGate_43 : decode cX12_setGate 43 = .ok (.invokevirtual 322, 3) := by decide +kernel
theorem dX12_setGate_46 : decode cX12_setGate 46 = .ok (.aload_n 0, 1) := by decide +kernel
theorem dX12_setGate_47 : decode cX12_setGate 47 = .ok (.getfield 47, 3) := by decide +kernel
theorem dX12_setGate_50 : decode cX12_setGate 50 = .ok (.bipush 97, 2) := by decide +kernel
theorem dX12_setGate_52 : decode cX12_setGate 52 = .ok (.iload_n 1, 1) := by decide +kernel
theorem dX12_setGate_53 : decode cX12_setGate 53 = .ok (.iadd, 1) := by decide +kernel
theorem dX12_setGate_54 : decode cX12_setGate 54 = .ok (.iload_n 2, 1) := by decide +kernel
theorem dX12_setGate_55 : decode cX12_setGate 55 = .ok (.iastore, 1) := by decide +kernel
theorem dX12_setGate_56 : decode cX12_setGate 56 = .ok (.aload_n 0, 1) := by decide +kernel
theorem dX12_setGate_57 : decode cX12_setGate 57 = .ok (.getfield 47, 3) := by decide +kernel
theorem dX12_setGate_60 : decode cX12_setGate 60 = .ok (.bipush 115, 2) := by decide +kernel
theorem dX12_setGate_62 : decode cX12_setGate 62 = .ok (.iload_n 1, 1) := by decide +kernel
theorem dX12_setGate_63 : decode cX12_setGate 63 = .ok (.iadd, 1) := by decide +kernel
theorem dX12_setGate_64 : decode cX12_setGate 64 = .ok (.iload_n 3, 1) := by decide +kernel
theorem dX12_setGate_65 : decode cX12_setGate 65 = .ok (.iastore, 1) := by decide +kernel
theorem dX12_setGate_66 : decode cX12_setGate 66 = .ok (.iconst 1, 1) := by decide +kernel
theorem dX12_setGate_67 : decode cX12_setGate 67 = .ok (.ireturn, 1) := by decide +kernel
set_option maxRecDepth 20000 in
theorem rX12_setGate {a1 a2 a3 : Int32} {I : MI} {Q : Int32 → MI → Prop} (H : (∀ I1 : MI, I1 = up2 I 261 0 0 → Wi mX12_isStreet [.ref 261, .int a1] I1 (fun r3 I2 => ((r3 = 0 → (Q 0 I2)) ∧ (¬ r3 = 0 → (Wi mX12_within [.long a2.toInt64, .long 0, .long 1439] I2 (fun r5 I4 => ((r5 = 0 → (Q 0 I4)) ∧ (¬ r5 = 0 → (Wi mX12_within [.long a3.toInt64, .long ((a2 + 1).toInt64), .long 1440] I4 (fun r7 I6 => ((¬ r7 = 0 → (Wv mX12_keepState [.ref 261] I6 (fun I8 => (vp_in (97 + a1) 332 ∧ ∀ I9 : MI, I9 = up2 I8 274 (97 + a1).toNatClampNeg a2 → vp_in (115 + a1) 332 ∧ ∀ I10 : MI, I10 = up2 I9 274 (115 + a1).toNatClampNeg a3 → Q 1 I10)))) ∧ (r7 = 0 → (Q 0 I6)))))))))))))) : Wi mX12_setGate [.ref 261, .int a1, .int a2, .int a3] I Q := by
  show WP mX12_setGate 286 Rf0 0 [some (.ref 261), some (.int a1), some (.int a2), some (.int a3)] [] I (qi Q)
  refine w_aload_n dX12_setGate_0 rfl rfl ?_
  refine w_iconst (v := 0) dX12_setGate_1 (by decide) ?_
  refine w_putI dX12_setGate_2 fl_12_87 okC12 kd_261 (by decide) (by decide) rfl rfl rfl (w_up fun I1 hI => ?_)
  replace H := H I1 hI
  refine w_aload_n dX12_setGate_5 rfl rfl ?_
  refine w_iload_n dX12_setGate_6 rfl rfl ?_
  refine w_callV (st := []) (As := [.int a1]) dX12_setGate_7 ml_12_218 okX12_isStreet kd_261 (by decide) rfl rfl rfl (Nat.le_of_ble_eq_true rfl) (by decide) (Nat.le_of_ble_eq_true rfl) (wc_i H (fun r3 I2 H => ?_))
  refine w_if_eq (t := 40) dX12_setGate_10 (by decide) (fun h => ?_) (fun h => ?_)
  · replace H := H.1 h
    refine w_iconst (v := 0) dX12_setGate_40 (by decide) ?_
    exact w_zret dX12_setGate_41 rfl rfl ⟨_, rfl, H⟩
  · replace H := H.2 h
    refine w_iload_n dX12_setGate_13 rfl rfl ?_
    refine w_i2l dX12_setGate_14 ?_
    refine w_lconst (v := 0) dX12_setGate_15 (by decide) ?_
    refine w_ldc2 (v := 1439) dX12_setGate_16 kl_12_336 ?_
    refine w_callS (st := []) (As := [.long a2.toInt64, .long 0, .long 1439]) dX12_setGate_19 ml_12_118 okX12_within rfl (Nat.le_of_ble_eq_true rfl) (by decide) (Nat.le_of_ble_eq_true rfl) (wc_i H (fun r5 I4 H => ?_))
    refine w_if_eq (t := 40) dX12_setGate_22 (by decide) (fun h => ?_) (fun h => ?_)
    · replace H := H.1 h
      refine w_iconst (v := 0) dX12_setGate_40 (by decide) ?_
      exact w_zret dX12_setGate_41 rfl rfl ⟨_, rfl, H⟩
    · replace H := H.2 h
      refine w_iload_n dX12_setGate_25 rfl rfl ?_
      refine w_i2l dX12_setGate_26 ?_
      refine w_iload_n dX12_setGate_27 rfl rfl ?_
      refine w_iconst (v := 1) dX12_setGate_28 (by decide) ?_
      refine w_iadd dX12_setGate_29 ?_
      refine w_i2l dX12_setGate_30 ?_
      refine w_ldc2 (v := 1440) dX12_setGate_31 kl_12_338 ?_
      refine w_callS (st := []) (As := [.long a3.toInt64, .long ((a2 + 1).toInt64), .long 1440]) dX12_setGate_34 ml_12_118 okX12_within rfl (Nat.le_of_ble_eq_true rfl) (by decide) (Nat.le_of_ble_eq_true rfl) (wc_i H (fun r7 I6 H => ?_))
      refine w_if_ne (t := 42) dX12_setGate_37 (by decide) (fun h => ?_) (fun h => ?_)
      · replace H := H.1 h
        refine w_aload_n dX12_setGate_42 rfl rfl ?_
        refine w_callV (st := []) (As := []) dX12_setGate_43 ml_12_322 okX12_keepState kd_261 (by decide) rfl rfl rfl (Nat.le_of_ble_eq_true rfl) (by decide) (Nat.le_of_ble_eq_true rfl) (wc_v H (fun I8 H => ?_))
        refine w_aload_n dX12_setGate_46 rfl rfl ?_
        refine w_getR dX12_setGate_47 fl_12_47 okC12 kd_261 (by decide) (by decide) rfl rf_261_22 ?_
        refine w_bipush (v := 97) dX12_setGate_50 (by decide) ?_
        refine w_iload_n dX12_setGate_52 rfl rfl ?_
        refine w_iadd dX12_setGate_53 ?_
        refine w_iload_n dX12_setGate_54 rfl rfl ?_
        refine w_iast dX12_setGate_55 kd_274 (by decide) H.1 (w_up fun I9 hI => ?_)
        replace H := H.2 I9 hI
        refine w_aload_n dX12_setGate_56 rfl rfl ?_
        refine w_getR dX12_setGate_57 fl_12_47 okC12 kd_261 (by decide) (by decide) rfl rf_261_22 ?_
        refine w_bipush (v := 115) dX12_setGate_60 (by decide) ?_
        refine w_iload_n dX12_setGate_62 rfl rfl ?_
        refine w_iadd dX12_setGate_63 ?_
        refine w_iload_n dX12_setGate_64 rfl rfl ?_
        refine w_iast dX12_setGate_65 kd_274 (by decide) H.1 (w_up fun I10 hI => ?_)
        replace H := H.2 I10 hI
        refine w_iconst (v := 1) dX12_setGate_66 (by decide) ?_
        exact w_zret dX12_setGate_67 rfl rfl ⟨_, rfl, H⟩
      · replace H := H.2 h
        refine w_iconst (v := 0) dX12_setGate_40 (by decide) ?_
        exact w_zret dX12_setGate_41 rfl rfl ⟨_, rfl, H⟩
theorem dX12_undo_0 : decode cX12_undo 0 = .ok (.aload_n 0, 1) := by decide +kernel
theorem dX12_undo_1 : decode cX12_undo 1 = .ok (.iconst 0, 1) := by decide +kernel
theorem dX12_undo_2 : decode cX12_undo 2 = .ok (.putfield 87, 3) := by decide +kernel
theorem dX12_undo_5 : decode cX12_undo 5 = .ok (.aload_n 0, 1) := by decide +kernel
theorem dX12_undo_6 : decode cX12_undo 6 = .ok (.getfield 196, 3) := by decide +kernel
theorem dX12_undo_9 : decode cX12_undo 9 = .ok (.ifCond .ne 6, 3) := by decide +kernel
theorem dX12_undo_12 : decode cX12_undo 12 = .ok (.bipush (-2), 2) := by decide +kernel
theorem dX12_undo_14 : decode cX12_undo 14 = .ok (.ireturn, 1) := by decide +kernel
theorem dX12_undo_15 : decode cX12_undo 15 = .ok (.aload_n 0, 1) := by decide +kernel
theorem dX12_undo_16 : decode cX12_undo 16 = .ok (.dup, 1) := by decide +kernel
theorem dX12_undo_17 : decode cX12_undo 17 = .ok (.getfield 196, 3) := by decide +kernel
theorem dX12_undo_20 : decode cX12_undo 20 = .ok (.iconst 1, 1) := by decide +kernel
theorem dX12_undo_21 : decode cX12_undo 21 = .ok (.isub, 1) := by decide +kernel
theorem dX12_undo_22 : decode cX12_undo 22 = .ok (.putfield 196, 3) := by decide +kernel
theorem dX12_undo_25 : decode cX12_undo 25 = .ok (.iconst 0, 1) := by decide +kernel
theorem dX12_undo_26 : decode cX12_undo 26 = .ok (.istore_n 1, 1) := by decide +kernel
theorem dX12_undo_27 : decode cX12_undo 27 = .ok (.iload_n 1, 1) := by decide +kernel
theorem dX12_undo_28 : decode cX12_undo 28 = .ok (.sipush 332, 3) := by decide +kernel
theorem dX12_undo_31 : decode cX12_undo 31 = .ok (.if_icmp .ge 30, 3) := by decide +kernel
theorem dX12_undo_34 : decode cX12_undo 34 = .ok (.aload_n 0, 1) := by decide +kernel
theorem dX12_undo_35 : decode cX12_undo 35 = .ok (.getfield 47, 3) := by decide +kernel
theorem dX12_undo_38 : decode cX12_undo 38 = .ok (.iload_n 1, 1) := by decide +kernel
theorem dX12_undo_39 : decode cX12_undo 39 = .ok (.aload_n 0, 1) := by decide +kernel
theorem dX12_undo_40 : decode cX12_undo 40 = .ok (.getfield 50, 3) := by decide +kernel
theorem dX12_undo_43 : decode cX12_undo 43 = .ok (.sipush 332, 3) := by decide +kernel
theorem dX12_undo_46 : decode cX12_undo 46 = .ok (.aload_n 0, 1) := by decide +kernel
theorem dX12_undo_47 : decode cX12_undo 47 = .ok (.getfield 196, 3) := by decide +kernel
theorem dX12_undo_50 : decode cX12_undo 50 = .ok (.imul, 1) := by decide +kernel
theorem dX12_undo_51 : decode cX12_undo 51 = .ok (.iload_n 1, 1) := by decide +kernel
theorem dX12_undo_52 : decode cX12_undo 52 = .ok (.iadd, 1) := by decide +kernel
theorem dX12_undo_53 : decode cX12_undo 53 = .ok (.iaload, 1) := by decide +kernel
theorem dX12_undo_54 : decode cX12_undo 54 = .ok (.iastore, 1) := by decide +kernel
theorem dX12_undo_55 : decode cX12_undo 55 = .ok (.iinc 1 1, 3) := by decide +kernel
theorem dX12_undo_58 : decode cX12_undo 58 = .ok (.goto (-31), 3) := by decide +kernel
theorem dX12_undo_61 : decode cX12_undo 61 = .ok (.aload_n 0, 1) := by decide +kernel
theorem dX12_undo_62 : decode cX12_undo 62 = .ok (.getfield 196, 3) := by decide +kernel
theorem dX12_undo_65 : decode cX12_undo 65 = .ok (.ireturn, 1) := by decide +kernel
abbrev LX12_undo_27 (l1 : Int32) (I : MI) (Q : Int32 → MI → Prop) : Prop := WP mX12_undo 286 Rf0 27 [some (.ref 261), some (.int l1)] [] I (qi Q)
set_option maxRecDepth 20000 in
theorem rX12_undo_27 {l1 : Int32} {I : MI} {Q : Int32 → MI → Prop} (H : ((332 ≤ l1 → (Q (I 261 24) I)) ∧ (¬ 332 ≤ l1 → (vp_in ((332 * (I 261 24)) + l1) 3984 ∧ vp_in l1 332 ∧ ∀ I1 : MI, I1 = up2 I 274 l1.toNatClampNeg (I 275 ((332 * (I 261 24)) + l1).toNatClampNeg) → LX12_undo_27 (l1 + 1) I1 Q)))) : LX12_undo_27 l1 I Q := by
  show WP mX12_undo 286 Rf0 27 [some (.ref 261), some (.int l1)] [] I (qi Q)
  refine w_iload_n dX12_undo_27 rfl rfl ?_
  refine w_sipush (v := 332) dX12_undo_28 (by decide) ?_
  refine w_icmp_ge (t := 61) dX12_undo_31 (by decide) (fun h => ?_) (fun h => ?_)
  · replace H := H.1 h
    refine w_aload_n dX12_undo_61 rfl rfl ?_
    refine w_getI dX12_undo_62 fl_12_196 okC12 kd_261 (by decide) (by decide) rfl ?_
    exact w_iret dX12_undo_65 rfl ⟨_, rfl, H⟩
  · replace H := H.2 h
    refine w_aload_n dX12_undo_34 rfl rfl ?_
    refine w_getR dX12_undo_35 fl_12_47 okC12 kd_261 (by decide) (by decide) rfl rf_261_22 ?_
    refine w_iload_n dX12_undo_38 rfl rfl ?_
    refine w_aload_n dX12_undo_39 rfl rfl ?_
    refine w_getR dX12_undo_40 fl_12_50 okC12 kd_261 (by decide) (by decide) rfl rf_261_23 ?_
    refine w_sipush (v := 332) dX12_undo_43 (by decide) ?_
    refine w_aload_n dX12_undo_46 rfl rfl ?_
    refine w_getI dX12_undo_47 fl_12_196 okC12 kd_261 (by decide) (by decide) rfl ?_
    refine w_imul dX12_undo_50 ?_
    refine w_iload_n dX12_undo_51 rfl rfl ?_
    refine w_iadd dX12_undo_52 ?_
    refine w_iald dX12_undo_53 kd_275 (by decide) H.1 ?_
    replace H := H.2
    refine w_iast dX12_undo_54 kd_274 (by decide) H.1 (w_up fun I1 hI => ?_)
    replace H := H.2 I1 hI
    refine w_iinc (v := l1 + 1) (ls' := [some (.ref 261), some (.int (l1 + 1))]) dX12_undo_55 rfl rfl (by decide) rfl rfl ?_
    refine w_goto (t := 27) dX12_undo_58 (by decide) ?_
    skip
    exact H
set_option maxRecDepth 20000 in
theorem rX12_undo {I : MI} {Q : Int32 → MI → Prop} (H : (∀ I1 : MI, I1 = up2 I 261 0 0 → (¬ (I1 261 24) = 0 → (∀ I2 : MI, I2 = up2 I1 261 24 ((I1 261 24) - 1) → LX12_undo_27 0 I2 Q)) ∧ ((I1 261 24) = 0 → (Q (-2) I1)))) : Wi mX12_undo [.ref 261] I Q := by
  show WP mX12_undo 286 Rf0 0 [some (.ref 261), none] [] I (qi Q)
  refine w_aload_n dX12_undo_0 rfl rfl ?_
  refine w_iconst (v := 0) dX12_undo_1 (by decide) ?_
  refine w_putI dX12_undo_2 fl_12_87 okC12 kd_261 (by decide) (by decide) rfl rfl rfl (w_up fun I1 hI => ?_)
  replace H := H I1 hI
  refine w_aload_n dX12_undo_5 rfl rfl ?_
  refine w_getI dX12_undo_6 fl_12_196 okC12 kd_261 (by decide) (by decide) rfl ?_
  refine w_if_ne (t := 15) dX12_undo_9 (by decide) (fun h => ?_) (fun h => ?_)
  · replace H := H.1 h
    refine w_aload_n dX12_undo_15 rfl rfl ?_
    refine w_dup dX12_undo_16 rfl ?_
    refine w_getI dX12_undo_17 fl_12_196 okC12 kd_261 (by decide) (by decide) rfl ?_
    refine w_iconst (v := 1) dX12_undo_20 (by decide) ?_
    refine w_isub dX12_undo_21 ?_
    refine w_putI dX12_undo_22 fl_12_196 okC12 kd_261 (by decide) (by decide) rfl rfl rfl (w_up fun I2 hI => ?_)
    replace H := H I2 hI
    refine w_iconst (v := 0) dX12_undo_25 (by decide) ?_
    refine w_istore_n (ls' := [some (.ref 261), some (.int 0)]) dX12_undo_26 rfl (by decide) rfl rfl ?_
    skip
    exact H
  · replace H := H.2 h
    refine w_bipush (v := (-2)) dX12_undo_12 (by decide) ?_
    exact w_iret dX12_undo_14 rfl ⟨_, rfl, H⟩
theorem dX12_saveSnapshot_0 : decode cX12_saveSnapshot 0 = .ok (.aload_n 0, 1) := by decide +kernel
theorem dX12_saveSnapshot_1 : decode cX12_saveSnapshot 1 = .ok (.iconst 0, 1) := by decide +kernel
theorem dX12_saveSnapshot_2 : decode cX12_saveSnapshot 2 = .ok (.putfield 87, 3) := by decide +kernel
theorem dX12_saveSnapshot_5 : decode cX12_saveSnapshot 5 = .ok (.iload_n 1, 1) := by decide +kernel
theorem dX12_saveSnapshot_6 : decode cX12_saveSnapshot 6 = .ok (.i2l, 1) := by decide +kernel
theorem dX12_saveSnapshot_7 : decode cX12_saveSnapshot 7 = .ok (.lconst 0, 1) := by decide +kernel
theorem dX12_saveSnapshot_8 : decode cX12_saveSnapshot 8 = .ok (.lconst 1, 1) := by decide +kernel
theorem dX12_saveSnapshot_9 : decode cX12_saveSnapshot 9 = .ok (.invokestatic 118, 3) := by decide +kernel
theorem dX12_saveSnapshot_12 : decode cX12_saveSnapshot 12 = .ok (.ifCond .ne 5, 3) := by decide +kernel
theorem dX12_saveSnapshot_15 : decode cX12_saveSnapshot 15 = .ok (.iconst 0, 1) := by decide +kernel
theorem dX12_saveSnapshot_16 : decode cX12_saveSnapshot 16 = .ok (.ireturn, 1) := by decide +kernel
theorem dX12_saveSnapshot_17 : decode cX12_saveSnapshot 17 = .ok (.iconst 0, 1) := by decide +kernel
theorem dX12_saveSnapshot_18 : decode cX12_saveSnapshot 18 = .ok (.istore_n 2, 1) := by decide +kernel
theorem dX12_saveSnapshot_19 : decode cX12_saveSnapshot 19 = .ok (.iload_n 2, 1) := by decide +kernel
theorem dX12_saveSnapshot_20 : decode cX12_saveSnapshot 20 = .ok (.sipush 332, 3) := by decide +kernel
theorem dX12_saveSnapshot_23 : decode cX12_saveSnapshot 23 = .ok (.if_icmp .ge 27, 3) := by decide +kernel
theorem dX12_saveSnapshot_26 : decode cX12_saveSnapshot 26 = .ok (.aload_n 0, 1) := by decide +kernel
theorem dX12_saveSnapshot_27 : decode cX12_saveSnapshot 27 = .ok (.getfield 53, 3) := by decide +kernel
theorem dX12_saveSnapshot_30 : decode cX12_saveSnapshot 30 = .ok (.sipush 332, 3) := by decide +kernel
theorem dX12_saveSnapshot_33 : decode cX12_saveSnapshot 33 = .ok (.iload_n 1, 1) := by decide +kernel
theorem dX12_saveSnapshot_34 : decode cX12_saveSnapshot 34 = .ok (.imul, 1) := by decide +kernel
theorem dX12_saveSnapshot_35 : decode cX12_saveSnapshot 35 = .ok (.iload_n 2, 1) := by decide +kernel
theorem dX12_saveSnapshot_36 : decode cX12_saveSnapshot 36 = .ok (.iadd, 1) := by decide +kernel
theorem dX12_saveSnapshot_37 : decode cX12_saveSnapshot 37 = .ok (.aload_n 0, 1) := by decide +kernel
theorem dX12_saveSnapshot_38 : decode cX12_saveSnapshot 38 = .ok (.getfield 47, 3) := by decide +kernel
theorem dX12_saveSnapshot_41 : decode cX12_saveSnapshot 41 = .ok (.iload_n 2, 1) := by decide +kernel
theorem dX12_saveSnapshot_42 : decode cX12_saveSnapshot 42 = .ok (.iaload, 1) := by decide +kernel
theorem dX12_saveSnapshot_43 : decode cX12_saveSnapshot 43 = .ok (.iastore, 1) := by decide +kernel
theorem dX12_saveSnapshot_44 : decode cX12_saveSnapshot 44 = .ok (.iinc 2 1, 3) := by decide +kernel
theorem dX12_saveSnapshot_47 : decode cX12_saveSnapshot 47 = .ok (.goto (-28), 3) := by decide +kernel
theorem dX12_saveSnapshot_50 : decode cX12_saveSnapshot 50 = .ok (.aload_n 0, 1) := by decide +kernel
theorem dX12_saveSnapshot_51 : decode cX12_saveSnapshot 51 = .ok (.getfield 56, 3) := by decide +kernel
theorem dX12_saveSnapshot_54 : decode cX12_saveSnapshot 54 = .ok (.iload_n 1, 1) := by decide +kernel
theorem dX12_saveSnapshot_55 : decode cX12_saveSnapshot 55 = .ok (.iconst 1, 1) := by decide +kernel
theorem dX12_saveSnapshot_56 : decode cX12_saveSnapshot 56 = .ok (.bastore, 1) := by decide +kernel
theorem dX12_saveSnapshot_57 : decode cX12_saveSnapshot 57 = .ok (.iconst 1, 1) := by decide +kernel
theorem dX12_saveSnapshot_58 : decode cX12_saveSnapshot 58 = .ok (.ireturn, 1) := by decide +kernel
abbrev LX12_saveSnapshot_19 (l1 l2 : Int32) (I : MI) (Q : Int32 → MI → Prop) : Prop := WP mX12_saveSnapshot 286 Rf0 19 [some (.ref 261), some (.int l1), some (.int l2)] [] I (qi Q)
set_option maxRecDepth 20000 in
theorem rX12_saveSnapshot_19 {l1 l2 : Int32} {I : MI} {Q : Int32 → MI → Prop} (H : ((332 ≤ l2 → (vp_in l1 2 ∧ ∀ I1 : MI, I1 = up2 I 277 l1.toNatClampNeg (vp_nar .boolean 1) → Q 1 I1)) ∧ (¬ 332 ≤ l2 → (vp_in l2 332 ∧ vp_in ((332 * l1) + l2) 664 ∧ ∀ I1 : MI, I1 = up2 I 276 ((332 * l1) + l2).toNatClampNeg (I 274 l2.toNatClampNeg) → LX12_saveSnapshot_19 l1 (l2 + 1) I1 Q)))) : LX12_saveSnapshot_19 l1 l2 I Q := by
  show WP mX12_saveSnapshot 286 Rf0 19 [some (.ref 261), some (.int l1), some (.int l2)] [] I (qi Q)
  refine w_iload_n dX12_saveSnapshot_19 rfl rfl ?_
  refine w_sipush (v := 332) dX12_saveSnapshot_20 (by decide) ?_
  refine w_icmp_ge (t := 50) dX12_saveSnapshot_23 (by decide) (fun h => ?_) (fun h => ?_)
  · replace H := H.1 h
    refine w_aload_n dX12_saveSnapshot_50 rfl rfl ?_
    refine w_getR dX12_saveSnapshot_51 fl_12_56 okC12 kd_261 (by decide) (by decide) rfl rf_261_26 ?_
    refine w_iload_n dX12_saveSnapshot_54 rfl rfl ?_
    refine w_iconst (v := 1) dX12_saveSnapshot_55 (by decide) ?_
    refine w_zast dX12_saveSnapshot_56 kd_277 (by decide) H.1 (w_up fun I1 hI => ?_)
    replace H := H.2 I1 hI
    refine w_iconst (v := 1) dX12_saveSnapshot_57 (by decide) ?_
    exact w_zret dX12_saveSnapshot_58 rfl rfl ⟨_, rfl, H⟩
  · replace H := H.2 h
    refine w_aload_n dX12_saveSnapshot_26 rfl rfl ?_
    refine w_getR dX12_saveSnapshot_27 fl_12_53 okC12 kd_261 (by decide) (by decide) rfl rf_261_25 ?_
    refine w_sipush (v := 332) dX12_saveSnapshot_30 (by decide) ?_
    refine w_iload_n dX12_saveSnapshot_33 rfl rfl ?_
    refine w_imul dX12_saveSnapshot_34 ?_
    refine w_iload_n dX12_saveSnapshot_35 rfl rfl ?_
    refine w_iadd dX12_saveSnapshot_36 ?_
    refine w_aload_n dX12_saveSnapshot_37 rfl rfl ?_
    refine w_getR dX12_saveSnapshot_38 fl_12_47 okC12 kd_261 (by decide) (by decide) rfl rf_261_22 ?_
    refine w_iload_n dX12_saveSnapshot_41 rfl rfl ?_
    refine w_iald dX12_saveSnapshot_42 kd_274 (by decide) H.1 ?_
    replace H := H.2
    refine w_iast dX12_saveSnapshot_43 kd_276 (by decide) H.1 (w_up fun I1 hI => ?_)
    replace H := H.2 I1 hI
    refine w_iinc (v := l2 + 1) (ls' := [some (.ref 261), some (.int l1), some (.int (l2 + 1))]) dX12_saveSnapshot_44 rfl rfl (by decide) rfl rfl ?_
    refine w_goto (t := 19) dX12_saveSnapshot_47 (by decide) ?_
    skip
    exact H
set_option maxRecDepth 20000 in
theorem rX12_saveSnapshot {a1 : Int32} {I : MI} {Q : Int32 → MI → Prop} (H : (∀ I1 : MI, I1 = up2 I 261 0 0 → Wi mX12_within [.long a1.toInt64, .long 0, .long 1] I1 (fun r3 I2 => ((¬ r3 = 0 → (LX12_saveSnapshot_19 a1 0 I2 Q)) ∧ (r3 = 0 → (Q 0 I2)))))) : Wi mX12_saveSnapshot [.ref 261, .int a1] I Q := by
  show WP mX12_saveSnapshot 286 Rf0 0 [some (.ref 261), some (.int a1), none] [] I (qi Q)
  refine w_aload_n dX12_saveSnapshot_0 rfl rfl ?_
  refine w_iconst (v := 0) dX12_saveSnapshot_1 (by decide) ?_
  refine w_putI dX12_saveSnapshot_2 fl_12_87 okC12 kd_261 (by decide) (by decide) rfl rfl rfl (w_up fun I1 hI => ?_)
  replace H := H I1 hI
  refine w_iload_n dX12_saveSnapshot_5 rfl rfl ?_
  refine w_i2l dX12_saveSnapshot_6 ?_
  refine w_lconst (v := 0) dX12_saveSnapshot_7 (by decide) ?_
  refine w_lconst (v := 1) dX12_saveSnapshot_8 (by decide) ?_
  refine w_callS (st := []) (As := [.long a1.toInt64, .long 0, .long 1]) dX12_saveSnapshot_9 ml_12_118 okX12_within rfl (Nat.le_of_ble_eq_true rfl) (by decide) (Nat.le_of_ble_eq_true rfl) (wc_i H (fun r3 I2 H => ?_))
  refine w_if_ne (t := 17) dX12_saveSnapshot_12 (by decide) (fun h => ?_) (fun h => ?_)
  · replace H := H.1 h
    refine w_iconst (v := 0) dX12_saveSnapshot_17 (by decide) ?_
    refine w_istore_n (ls' := [some (.ref 261), some (.int a1), some (.int 0)]) dX12_saveSnapshot_18 rfl (by decide) rfl rfl ?_
    skip
    exact H
  · replace H := H.2 h
    refine w_iconst (v := 0) dX12_saveSnapshot_15 (by decide) ?_
    exact w_zret dX12_saveSnapshot_16 rfl rfl ⟨_, rfl, H⟩
theorem dX12_restoreSnapshot_0 : decode cX12_restoreSnapshot 0 = .ok (.aload_n 0, 1) := by decide +kernel
theorem dX12_restoreSnapshot_1 : decode cX12_restoreSnapshot 1 = .ok (.iconst 0, 1) := by decide +kernel
theorem dX12_restoreSnapshot_2 : decode cX12_restoreSnapshot 2 = .ok (.putfield 87, 3) := by decide +kernel
theorem dX12_restoreSnapshot_5 : decode cX12_restoreSnapshot 5 = .ok (.iload_n 1, 1) := by decide +kernel
theorem dX12_restoreSnapshot_6 : decode cX12_restoreSnapshot 6 = .ok (.i2l, 1) := by decide +kernel
theorem dX12_restoreSnapshot_7 : decode cX12_restoreSnapshot 7 = .ok (.lconst 0, 1) := by decide +kernel
theorem dX12_restoreSnapshot_8 : decode cX12_restoreSnapshot 8 = .ok (.lconst 1, 1) := by decide +kernel
theorem dX12_restoreSnapshot_9 : decode cX12_restoreSnapshot 9 = .ok (.invokestatic 118, 3) := by decide +kernel
theorem dX12_restoreSnapshot_12 : decode cX12_restoreSnapshot 12 = .ok (.ifCond .eq 12, 3) := by decide +kernel
theorem dX12_restoreSnapshot_15 : decode cX12_restoreSnapshot 15 = .ok (.aload_n 0, 1) := by decide +kernel
theorem dX12_restoreSnapshot_16 : decode cX12_restoreSnapshot 16 = .ok (.getfield 56, 3) := by decide +kernel
theorem dX12_restoreSnapshot_19 : decode cX12_restoreSnapshot 19 = .ok (.iload_n 1, 1) := by decide +kernel
theorem dX12_restoreSnapshot_20 : decode cX12_restoreSnapshot 20 = .ok (.baload, 1) := by decide +kernel
theorem dX12_restoreSnapshot_21 : decode cX12_restoreSnapshot 21 = .ok (.ifCond .ne 5, 3) := by decide +kernel
theorem dX12_restoreSnapshot_24 : decode cX12_restoreSnapshot 24 = .ok (.iconst 0, 1) := by decide +kernel
theorem dX12_restoreSnapshot_25 : decode cX12_restoreSnapshot 25 = .ok (.ireturn, 1) := by decide +kernel
theorem dX12_restoreSnapshot_26 : decode cX12_restoreSnapshot 26 = .ok (.iconst 0, 1) := by decide +kernel
theorem dX12_restoreSnapshot_27 : decode cX12_restoreSnapshot 27 = .ok (.istore_n 2, 1) := by decide +kernel
theorem dX12_restoreSnapshot_28 : decode cX12_restoreSnapshot 28 = .ok (.iload_n 2, 1) := by decide +kernel
theorem dX12_restoreSnapshot_29 : decode cX12_restoreSnapshot 29 = .ok (.sipush 332, 3) := by decide +kernel
theorem dX12_restoreSnapshot_32 : decode cX12_restoreSnapshot 32 = .ok (.if_icmp .ge 27, 3) := by decide +kernel
theorem dX12_restoreSnapshot_35 : decode cX12_restoreSnapshot 35 = .ok (.aload_n 0, 1) := by decide +kernel
theorem dX12_restoreSnapshot_36 : decode cX12_restoreSnapshot 36 = .ok (.getfield 47, 3) := by decide +kernel
theorem dX12_restoreSnapshot_39 : decode cX12_restoreSnapshot 39 = .ok (.iload_n 2, 1) := by decide +kernel
theorem dX12_restoreSnapshot_40 : decode cX12_restoreSnapshot 40 = .ok (.aload_n 0, 1) := by decide +kernel
theorem dX12_restoreSnapshot_41 : decode cX12_restoreSnapshot 41 = .ok (.getfield 53, 3) := by decide +kernel
theorem dX12_restoreSnapshot_44 : decode cX12_restoreSnapshot 44 = .ok (.sipush 332, 3) := by decide +kernel
theorem dX12_restoreSnapshot_47 : decode cX12_restoreSnapshot 47 = .ok (.iload_n 1, 1) := by decide +kernel
theorem dX12_restoreSnapshot_48 : decode cX12_restoreSnapshot 48 = .ok (.imul, 1) := by decide +kernel
theorem dX12_restoreSnapshot_49 : decode cX12_restoreSnapshot 49 = .ok (.iload_n 2, 1) := by decide +kernel
theorem dX12_restoreSnapshot_50 : decode cX12_restoreSnapshot 50 = .ok (.iadd, 1) := by decide +kernel
theorem dX12_restoreSnapshot_51 : decode cX12_restoreSnapshot 51 = .ok (.iaload, 1) := by decide +kernel
theorem dX12_restoreSnapshot_52 : decode cX12_restoreSnapshot 52 = .ok (.iastore, 1) := by decide +kernel
theorem dX12_restoreSnapshot_53 : decode cX12_restoreSnapshot 53 = .ok (.iinc 2 1, 3) := by decide +kernel
theorem dX12_restoreSnapshot_56 : decode cX12_restoreSnapshot 56 = .ok (.goto (-28), 3) := by decide +kernel
theorem dX12_restoreSnapshot_59 : decode cX12_restoreSnapshot 59 = .ok (.aload_n 0, 1) := by decide +kernel
theorem dX12_restoreSnapshot_60 : decode cX12_restoreSnapshot 60 = .ok (.iconst 0, 1) := by decide +kernel
theorem dX12_restoreSnapshot_61 : decode cX12_restoreSnapshot 61 = .ok (.putfield 196, 3) := by decide +kernel
theorem dX12_restoreSnapshot_64 : decode cX12_restoreSnapshot 64 = .ok (.iconst 1, 1) := by decide +kernel
theorem dX12_restoreSnapshot_65 : decode cX12_restoreSnapshot 65 = .ok (.ireturn, 1) := by decide +kernel
abbrev LX12_restoreSnapshot_28 (l1 l2 : Int32) (I : MI) (Q : Int32 → MI → Prop) : Prop := WP mX12_restoreSnapshot 286 Rf0 28 [some (.ref 261), some (.int l1), some (.int l2)] [] I (qi Q)
set_option maxRecDepth 20000 in
theorem rX12_restoreSnapshot_28 {l1 l2 : Int32} {I : MI} {Q : Int32 → MI → Prop} (H : ((332 ≤ l2 → (∀ I1 : MI, I1 = up2 I 261 24 0 → Q 1 I1)) ∧ (¬ 332 ≤ l2 → (vp_in ((332 * l1) + l2) 664 ∧ vp_in l2 332 ∧ ∀ I1 : MI, I1 = up2 I 274 l2.toNatClampNeg (I 276 ((332 * l1) + l2).toNatClampNeg) → LX12_restoreSnapshot_28 l1 (l2 + 1) I1 Q)))) : LX12_restoreSnapshot_28 l1 l2 I Q := by
  show WP mX12_restoreSnapshot 286 Rf0 28 [some (.ref 261), some (.int l1), some (.int l2)] [] I (qi Q)
  refine w_iload_n dX12_restoreSnapshot_28 rfl rfl ?_
  refine w_sipush (v := 332) dX12_restoreSnapshot_29 (by decide) ?_
  refine w_icmp_ge (t := 59) dX12_restoreSnapshot_32 (by decide) (fun h => ?_) (fun h => ?_)
  · replace H := H.1 h
    refine w_aload_n dX12_restoreSnapshot_59 rfl rfl ?_
    refine w_iconst (v := 0) dX12_restoreSnapshot_60 (by decide) ?_
    refine w_putI dX12_restoreSnapshot_61 fl_12_196 okC12 kd_261 (by decide) (by decide) rfl rfl rfl (w_up fun I1 hI => ?_)
    replace H := H I1 hI
    refine w_iconst (v := 1) dX12_restoreSnapshot_64 (by decide) ?_
    exact w_zret dX12_restoreSnapshot_65 rfl rfl ⟨_, rfl, H⟩
  · replace H := H.2 h
    refine w_aload_n dX12_restoreSnapshot_35 rfl rfl ?_
    refine w_getR dX12_restoreSnapshot_36 fl_12_47 okC12 kd_261 (by decide) (by decide) rfl rf_261_22 ?_
    refine w_iload_n dX12_restoreSnapshot_39 rfl rfl ?_
    refine w_aload_n dX12_restoreSnapshot_40 rfl rfl ?_
    refine w_getR dX12_restoreSnapshot_41 fl_12_53 okC12 kd_261 (by decide) (by decide) rfl rf_261_25 ?_
    refine w_sipush (v := 332) dX12_restoreSnapshot_44 (by decide) ?_
    refine w_iload_n dX12_restoreSnapshot_47 rfl rfl ?_
    refine w_imul dX12_restoreSnapshot_48 ?_
    refine w_iload_n dX12_restoreSnapshot_49 rfl rfl ?_
    refine w_iadd dX12_restoreSnapshot_50 ?_
    refine w_iald dX12_restoreSnapshot_51 kd_276 (by decide) H.1 ?_
    replace H := H.2
    refine w_iast dX12_restoreSnapshot_52 kd_274 (by decide) H.1 (w_up fun I1 hI => ?_)
    replace H := H.2 I1 hI
    refine w_iinc (v := l2 + 1) (ls' := [some (.ref 261), some (.int l1), some (.int (l2 + 1))]) dX12_restoreSnapshot_53 rfl rfl (by decide) rfl rfl ?_
    refine w_goto (t := 28) dX12_restoreSnapshot_56 (by decide) ?_
    skip
    exact H
set_option maxRecDepth 20000 in
theorem rX12_restoreSnapshot {a1 : Int32} {I : MI} {Q : Int32 → MI → Prop} (H : (∀ I1 : MI, I1 = up2 I 261 0 0 → Wi mX12_within [.long a1.toInt64, .long 0, .long 1] I1 (fun r3 I2 => ((r3 = 0 → (Q 0 I2)) ∧ (¬ r3 = 0 → (vp_in a1 2 ∧ (¬ (I2 277 a1.toNatClampNeg) = 0 → (LX12_restoreSnapshot_28 a1 0 I2 Q)) ∧ ((I2 277 a1.toNatClampNeg) = 0 → (Q 0 I2)))))))) : Wi mX12_restoreSnapshot [.ref 261, .int a1] I Q := by
  show WP mX12_restoreSnapshot 286 Rf0 0 [some (.ref 261), some (.int a1), none] [] I (qi Q)
  refine w_aload_n dX12_restoreSnapshot_0 rfl rfl ?_
  refine w_iconst (v := 0) dX12_restoreSnapshot_1 (by decide) ?_
  refine w_putI dX12_restoreSnapshot_2 fl_12_87 okC12 kd_261 (by decide) (by decide) rfl rfl rfl (w_up fun I1 hI => ?_)
  replace H := H I1 hI
  refine w_iload_n dX12_restoreSnapshot_5 rfl rfl ?_
  refine w_i2l dX12_restoreSnapshot_6 ?_
  refine w_lconst (v := 0) dX12_restoreSnapshot_7 (by decide) ?_
  refine w_lconst (v := 1) dX12_restoreSnapshot_8 (by decide) ?_
  refine w_callS (st := []) (As := [.long a1.toInt64, .long 0, .long 1]) dX12_restoreSnapshot_9 ml_12_118 okX12_within rfl (Nat.le_of_ble_eq_true rfl) (by decide) (Nat.le_of_ble_eq_true rfl) (wc_i H (fun r3 I2 H => ?_))
  refine w_if_eq (t := 24) dX12_restoreSnapshot_12 (by decide) (fun h => ?_) (fun h => ?_)
  · replace H := H.1 h
    refine w_iconst (v := 0) dX12_restoreSnapshot_24 (by decide) ?_
    exact w_zret dX12_restoreSnapshot_25 rfl rfl ⟨_, rfl, H⟩
  · replace H := H.2 h
    refine w_aload_n dX12_restoreSnapshot_15 rfl rfl ?_
    refine w_getR dX12_restoreSnapshot_16 fl_12_56 okC12 kd_261 (by decide) (by decide) rfl rf_261_26 ?_
    refine w_iload_n dX12_restoreSnapshot_19 rfl rfl ?_
    refine w_zald dX12_restoreSnapshot_20 kd_277 (by decide) H.1 ?_
    replace H := H.2
    refine w_if_ne (t := 26) dX12_restoreSnapshot_21 (by decide) (fun h => ?_) (fun h => ?_)
    · replace H := H.1 h
      refine w_iconst (v := 0) dX12_restoreSnapshot_26 (by decide) ?_
      refine w_istore_n (ls' := [some (.ref 261), some (.int a1), some (.int 0)]) dX12_restoreSnapshot_27 rfl (by decide) rfl rfl ?_
      skip
      exact H
    · replace H := H.2 h
      refine w_iconst (v := 0) dX12_restoreSnapshot_24 (by decide) ?_
      exact w_zret dX12_restoreSnapshot_25 rfl rfl ⟨_, rfl, H⟩
theorem dX12_is_0 : decode cX12_is 0 = .ok (.aload_n 0, 1) := by decide +kernel
theorem dX12_is_1 : decode cX12_is 1 = .ok (.getfield 129, 3) := by decide +kernel
theorem dX12_is_4 : decode cX12_is 4 = .ok (.ifCond .ne 27, 3) := by decide +kernel
theorem dX12_is_7 : decode cX12_is 7 = .ok (.aload_n 0, 1) := by decide +kernel
theorem dX12_is_8 : decode cX12_is 8 = .ok (.getfield 111, 3) := by decide +kernel
theorem dX12_is_11 : decode cX12_is 11 = .ok (.iconst 1, 1) := by decide +kernel
theorem dX12_is_12 : decode cX12_is 12 = .ok (.if_icmp .ne 19, 3) := by decide +kernel
theorem dX12_is_15 : decode cX12_is 15 = .ok (.aload_n 0, 1) := by decide +kernel
theorem dX12_is_16 : decode cX12_is 16 = .ok (.getfield 101, 3) := by decide +kernel
theorem dX12_is_19 : decode cX12_is 19 = .ok (.aload_n 0, 1) := by decide +kernel
theorem dX12_is_20 : decode cX12_is 20 = .ok (.getfield 104, 3) := by decide +kernel
theorem dX12_is_23 : decode cX12_is 23 = .ok (.isub, 1) := by decide +kernel
theorem dX12_is_24 : decode cX12_is 24 = .ok (.aload_n 1, 1) := by decide +kernel
theorem dX12_is_25 : decode cX12_is 25 = .ok (.invokevirtual 135, 3) := by decide +kernel
theorem dX12_is_28 : decode cX12_is 28 = .ok (.if_icmp .eq 5, 3) := by decide +kernel
theorem dX12_is_31 : decode cX12_is 31 = .ok (.iconst 0, 1) := by decide +kernel
theorem dX12_is_32 : decode cX12_is 32 = .ok (.ireturn, 1) := by decide +kernel
theorem dX12_is_33 : decode cX12_is 33 = .ok (.iconst 0, 1) := by decide +kernel
theorem dX12_is_34 : decode cX12_is 34 = .ok (.istore_n 2, 1) := by decide +kernel
theorem dX12_is_35 : decode cX12_is 35 = .ok (.iload_n 2, 1) := by decide +kernel
theorem dX12_is_36 : decode cX12_is 36 = .ok (.aload_n 1, 1) := by decide +kernel
theorem dX12_is_37 : decode cX12_is 37 = .ok (.invokevirtual 135, 3) := by decide +kernel
theorem dX12_is_40 : decode cX12_is 40 = .ok (.if_icmp .ge 29, 3) := by decide +kernel
theorem dX12_is_43 : decode cX12_is 43 = .ok (.aload_n 0, 1) := by decide +kernel
theorem dX12_is_44 : decode cX12_is 44 = .ok (.aload_n 0, 1) := by decide +kernel
theorem dX12_is_45 : decode cX12_is 45 = .ok (.getfield 104, 3) := by decide +kernel
theorem dX12_is_48 : decode cX12_is 48 = .ok (.iload_n 2, 1) := by decide +kernel
theorem dX12_is_49 : decode cX12_is 49 = .ok (.iadd, 1) := by decide +kernel
theorem dX12_is_50 : decode cX12_is 50 = .ok (.invokevirtual 107, 3) := by decide +kernel
theorem dX12_is_53 : decode cX12_is 53 = .ok (.aload_n 1, 1) := by decide +kernel
theorem dX12_is_54 : decode cX12_is 54 = .ok (.iload_n 2, 1) := by decide +kernel
theorem dX12_is_55 : decode cX12_is 55 = .ok (.invokevirtual 140, 3) := by decide +kernel
theorem dX12_is_58 : decode cX12_is 58 = .ok (.if_icmp .eq 5, 3) := by decide +kernel
theorem dX12_is_61 : decode cX12_is 61 = .ok (.iconst 0, 1) := by decide +kernel
theorem dX12_is_62 : decode cX12_is 62 = .ok (.ireturn, 1) := by decide +kernel
theorem dX12_is_63 : decode cX12_is 63 = .ok (.iinc 2 1, 3) := by decide +kernel
theorem dX12_is_66 : decode cX12_is 66 = .ok (.goto (-31), 3) := by decide +kernel
theorem dX12_is_69 : decode cX12_is 69 = .ok (.iconst 1, 1) := by decide +kernel
theorem dX12_is_70 : decode cX12_is 70 = .ok (.ireturn, 1) := by decide +kernel
abbrev LX12_is_35 (j : Nat) (l2 : Int32) (I : MI) (Q : Int32 → MI → Prop) : Prop := WP mX12_is 286 Rf0 35 [some (.ref 261), some (.retAddr (2 * j + 1)), some (.int l2)] [] I (qi Q)
set_option maxRecDepth 20000 in
theorem rX12_is_35 {j : Nat} {l2 : Int32} {I : MI} {Q : Int32 → MI → Prop} (hj : j < 7) (H : (Wi mJ0_length_8abf5 [.retAddr (2 * j + 1)] I (fun r2 I1 => ((r2 ≤ l2 → (Q 1 I1)) ∧ (¬ r2 ≤ l2 → (Wi mX12_byteAt [.ref 261, .int ((I1 261 4) + l2)] I1 (fun r4 I3 => (Wi mJ0_charAt_5068e [.retAddr (2 * j + 1), .int l2] I3 (fun r6 I5 => ((r4 = r6 → (LX12_is_35 j (l2 + 1) I5 Q)) ∧ (¬ r4 = r6 → (Q 0 I5)))))))))))) : LX12_is_35 j l2 I Q := by
  show WP mX12_is 286 Rf0 35 [some (.ref 261), some (.retAddr (2 * j + 1)), some (.int l2)] [] I (qi Q)
  refine w_iload_n dX12_is_35 rfl rfl ?_
  refine w_aload_nS dX12_is_36 rfl rfl ?_
  refine w_callW (j := j) (st := [.int l2]) (As := []) hj dX12_is_37 ml_12_135 okJ0_length_8abf5 rfl rfl (Nat.le_of_ble_eq_true rfl) (by decide) (Nat.le_of_ble_eq_true rfl) (wc_i H (fun r2 I1 H => ?_))
  refine w_icmp_ge (t := 69) dX12_is_40 (by decide) (fun h => ?_) (fun h => ?_)
  · replace H := H.1 h
    refine w_iconst (v := 1) dX12_is_69 (by decide) ?_
    exact w_zret dX12_is_70 rfl rfl ⟨_, rfl, H⟩
  · replace H := H.2 h
    refine w_aload_n dX12_is_43 rfl rfl ?_
    refine w_aload_n dX12_is_44 rfl rfl ?_
    refine w_getI dX12_is_45 fl_12_104 okC12 kd_261 (by decide) (by decide) rfl ?_
    refine w_iload_n dX12_is_48 rfl rfl ?_
    refine w_iadd dX12_is_49 ?_
    refine w_callV (st := []) (As := [.int ((I1 261 4) + l2)]) dX12_is_50 ml_12_107 okX12_byteAt kd_261 (by decide) rfl rfl rfl (Nat.le_of_ble_eq_true rfl) (by decide) (Nat.le_of_ble_eq_true rfl) (wc_i H (fun r4 I3 H => ?_))
    refine w_aload_nS dX12_is_53 rfl rfl ?_
    refine w_iload_n dX12_is_54 rfl rfl ?_
    refine w_callW (j := j) (st := [.int r4]) (As := [.int l2]) hj dX12_is_55 ml_12_140 okJ0_charAt_5068e rfl rfl (Nat.le_of_ble_eq_true rfl) (by decide) (Nat.le_of_ble_eq_true rfl) (wc_i H (fun r6 I5 H => ?_))
    refine w_icmp_eq (t := 63) dX12_is_58 (by decide) (fun h => ?_) (fun h => ?_)
    · replace H := H.1 h
      refine w_iinc (v := l2 + 1) (ls' := [some (.ref 261), some (.retAddr (2 * j + 1)), some (.int (l2 + 1))]) dX12_is_63 rfl rfl (by decide) rfl rfl ?_
      refine w_goto (t := 35) dX12_is_66 (by decide) ?_
      skip
      exact H
    · replace H := H.2 h
      refine w_iconst (v := 0) dX12_is_61 (by decide) ?_
      exact w_zret dX12_is_62 rfl rfl ⟨_, rfl, H⟩
set_option maxRecDepth 20000 in
theorem rX12_is {j : Nat} {I : MI} {Q : Int32 → MI → Prop} (hj : j < 7) (H : ((¬ (I 261 8) = 0 → (Q 0 I)) ∧ ((I 261 8) = 0 → ((¬ (I 261 6) = 1 → (Q 0 I)) ∧ ((I 261 6) = 1 → (Wi mJ0_length_8abf5 [.retAddr (2 * j + 1)] I (fun r2 I1 => ((((I 261 5) - (I 261 4)) = r2 → (LX12_is_35 j 0 I1 Q)) ∧ (¬ ((I 261 5) - (I 261 4)) = r2 → (Q 0 I1)))))))))) : Wi mX12_is [.ref 261, .retAddr (2 * j + 1)] I Q := by
  show WP mX12_is 286 Rf0 0 [some (.ref 261), some (.retAddr (2 * j + 1)), none] [] I (qi Q)
  refine w_aload_n dX12_is_0 rfl rfl ?_
  refine w_getI dX12_is_1 fl_12_129 okC12 kd_261 (by decide) (by decide) rfl ?_
  refine w_if_ne (t := 31) dX12_is_4 (by decide) (fun h => ?_) (fun h => ?_)
  · replace H := H.1 h
    refine w_iconst (v := 0) dX12_is_31 (by decide) ?_
    exact w_zret dX12_is_32 rfl rfl ⟨_, rfl, H⟩
  · replace H := H.2 h
    refine w_aload_n dX12_is_7 rfl rfl ?_
    refine w_getI dX12_is_8 fl_12_111 okC12 kd_261 (by decide) (by decide) rfl ?_
    refine w_iconst (v := 1) dX12_is_11 (by decide) ?_
    refine w_icmp_ne (t := 31) dX12_is_12 (by decide) (fun h => ?_) (fun h => ?_)
    · replace H := H.1 h
      refine w_iconst (v := 0) dX12_is_31 (by decide) ?_
      exact w_zret dX12_is_32 rfl rfl ⟨_, rfl, H⟩
    · replace H := H.2 h
      refine w_aload_n dX12_is_15 rfl rfl ?_
      refine w_getI dX12_is_16 fl_12_101 okC12 kd_261 (by decide) (by decide) rfl ?_
      refine w_aload_n dX12_is_19 rfl rfl ?_
      refine w_getI dX12_is_20 fl_12_104 okC12 kd_261 (by decide) (by decide) rfl ?_
      refine w_isub dX12_is_23 ?_
      refine w_aload_nS dX12_is_24 rfl rfl ?_
      refine w_callW (j := j) (st := [.int ((I 261 5) - (I 261 4))]) (As := []) hj dX12_is_25 ml_12_135 okJ0_length_8abf5 rfl rfl (Nat.le_of_ble_eq_true rfl) (by decide) (Nat.le_of_ble_eq_true rfl) (wc_i H (fun r2 I1 H => ?_))
      refine w_icmp_eq (t := 33) dX12_is_28 (by decide) (fun h => ?_) (fun h => ?_)
      · replace H := H.1 h
        refine w_iconst (v := 0) dX12_is_33 (by decide) ?_
        refine w_istore_n (ls' := [some (.ref 261), some (.retAddr (2 * j + 1)), some (.int 0)]) dX12_is_34 rfl (by decide) rfl rfl ?_
        skip
        exact H
      · replace H := H.2 h
        refine w_iconst (v := 0) dX12_is_31 (by decide) ?_
        exact w_zret dX12_is_32 rfl rfl ⟨_, rfl, H⟩
theorem dX12_adopt_0 : decode cX12_adopt 0 = .ok (.iconst 0, 1) := by decide +kernel
theorem dX12_adopt_1 : decode cX12_adopt 1 = .ok (.istore_n 1, 1) := by decide +kernel
theorem dX12_adopt_2 : decode cX12_adopt 2 = .ok (.iload_n 1, 1) := by decide +kernel
theorem dX12_adopt_3 : decode cX12_adopt 3 = .ok (.aload_n 0, 1) := by decide +kernel
theorem dX12_adopt_4 : decode cX12_adopt 4 = .ok (.arraylength, 1) := by decide +kernel
theorem dX12_adopt_5 : decode cX12_adopt 5 = .ok (.iconst 2, 1) := by decide +kernel
theorem dX12_adopt_6 : decode cX12_adopt 6 = .ok (.idiv, 1) := by decide +kernel
theorem dX12_adopt_7 : decode cX12_adopt 7 = .ok (.if_icmp .ge 20, 3) := by decide +kernel
theorem dX12_adopt_10 : decode cX12_adopt 10 = .ok (.aload_n 0, 1) := by decide +kernel
theorem dX12_adopt_11 : decode cX12_adopt 11 = .ok (.iload_n 1, 1) := by decide +kernel
theorem dX12_adopt_12 : decode cX12_adopt 12 = .ok (.aload_n 0, 1) := by decide +kernel
theorem dX12_adopt_13 : decode cX12_adopt 13 = .ok (.aload_n 0, 1) := by decide +kernel
theorem dX12_adopt_14 : decode cX12_adopt 14 = .ok (.arraylength, 1) := by decide +kernel
theorem dX12_adopt_15 : decode cX12_adopt 15 = .ok (.iconst 2, 1) := by decide +kernel
theorem dX12_adopt_16 : decode cX12_adopt 16 = .ok (.idiv, 1) := by decide +kernel
theorem dX12_adopt_17 : decode cX12_adopt 17 = .ok (.iload_n 1, 1) := by decide +kernel
theorem dX12_adopt_18 : decode cX12_adopt 18 = .ok (.iadd, 1) := by decide +kernel
theorem dX12_adopt_19 : decode cX12_adopt 19 = .ok (.iaload, 1) := by decide +kernel
theorem dX12_adopt_20 : decode cX12_adopt 20 = .ok (.iastore, 1) := by decide +kernel
theorem dX12_adopt_21 : decode cX12_adopt 21 = .ok (.iinc 1 1, 3) := by decide +kernel
theorem dX12_adopt_24 : decode cX12_adopt 24 = .ok (.goto (-22), 3) := by decide +kernel
theorem dX12_adopt_27 : decode cX12_adopt 27 = .ok (.return_, 1) := by decide +kernel
abbrev LX12_adopt_265_2 (l1 : Int32) (I : MI) (Q : MI → Prop) : Prop := WP mX12_adopt 286 Rf0 2 [some (.ref 265), some (.int l1)] [] I (qv Q)
set_option maxRecDepth 20000 in
theorem rX12_adopt_265_2 {l1 : Int32} {I : MI} {Q : MI → Prop} (H : (((36 / 2) ≤ l1 → (Q I)) ∧ (¬ (36 / 2) ≤ l1 → (vp_in ((36 / 2) + l1) 36 ∧ vp_in l1 36 ∧ ∀ I1 : MI, I1 = up2 I 265 l1.toNatClampNeg (I 265 ((36 / 2) + l1).toNatClampNeg) → LX12_adopt_265_2 (l1 + 1) I1 Q)))) : LX12_adopt_265_2 l1 I Q := by
  show WP mX12_adopt 286 Rf0 2 [some (.ref 265), some (.int l1)] [] I (qv Q)
  refine w_iload_n dX12_adopt_2 rfl rfl ?_
  refine w_aload_n dX12_adopt_3 rfl rfl ?_
  refine w_alen (v := 36) dX12_adopt_4 kd_265 (by decide) (by decide) ?_
  refine w_iconst (v := 2) dX12_adopt_5 (by decide) ?_
  refine w_idiv dX12_adopt_6 (by decide) ?_
  refine w_icmp_ge (t := 27) dX12_adopt_7 (by decide) (fun h => ?_) (fun h => ?_)
  · replace H := H.1 h
    exact w_vret dX12_adopt_27 rfl ⟨rfl, H⟩
  · replace H := H.2 h
    refine w_aload_n dX12_adopt_10 rfl rfl ?_
    refine w_iload_n dX12_adopt_11 rfl rfl ?_
    refine w_aload_n dX12_adopt_12 rfl rfl ?_
    refine w_aload_n dX12_adopt_13 rfl rfl ?_
    refine w_alen (v := 36) dX12_adopt_14 kd_265 (by decide) (by decide) ?_
    refine w_iconst (v := 2) dX12_adopt_15 (by decide) ?_
    refine w_idiv dX12_adopt_16 (by decide) ?_
    refine w_iload_n dX12_adopt_17 rfl rfl ?_
    refine w_iadd dX12_adopt_18 ?_
    refine w_iald dX12_adopt_19 kd_265 (by decide) H.1 ?_
    replace H := H.2
    refine w_iast dX12_adopt_20 kd_265 (by decide) H.1 (w_up fun I1 hI => ?_)
    replace H := H.2 I1 hI
    refine w_iinc (v := l1 + 1) (ls' := [some (.ref 265), some (.int (l1 + 1))]) dX12_adopt_21 rfl rfl (by decide) rfl rfl ?_
    refine w_goto (t := 2) dX12_adopt_24 (by decide) ?_
    skip
    exact H
set_option maxRecDepth 20000 in
theorem rX12_adopt_265 {I : MI} {Q : MI → Prop} (H : (LX12_adopt_265_2 0 I Q)) : Wv mX12_adopt [.ref 265] I Q := by
  show WP mX12_adopt 286 Rf0 0 [some (.ref 265), none] [] I (qv Q)
  refine w_iconst (v := 0) dX12_adopt_0 (by decide) ?_
  refine w_istore_n (ls' := [some (.ref 265), some (.int 0)]) dX12_adopt_1 rfl (by decide) rfl rfl ?_
  skip
  exact H
abbrev LX12_adopt_266_2 (l1 : Int32) (I : MI) (Q : MI → Prop) : Prop := WP mX12_adopt 286 Rf0 2 [some (.ref 266), some (.int l1)] [] I (qv Q)
set_option maxRecDepth 20000 in
theorem rX12_adopt_266_2 {l1 : Int32} {I : MI} {Q : MI → Prop} (H : (((36 / 2) ≤ l1 → (Q I)) ∧ (¬ (36 / 2) ≤ l1 → (vp_in ((36 / 2) + l1) 36 ∧ vp_in l1 36 ∧ ∀ I1 : MI, I1 = up2 I 266 l1.toNatClampNeg (I 266 ((36 / 2) + l1).toNatClampNeg) → LX12_adopt_266_2 (l1 + 1) I1 Q)))) : LX12_adopt_266_2 l1 I Q := by
  show WP mX12_adopt 286 Rf0 2 [some (.ref 266), some (.int l1)] [] I (qv Q)
  refine w_iload_n dX12_adopt_2 rfl rfl ?_
  refine w_aload_n dX12_adopt_3 rfl rfl ?_
  refine w_alen (v := 36) dX12_adopt_4 kd_266 (by decide) (by decide) ?_
  refine w_iconst (v := 2) dX12_adopt_5 (by decide) ?_
  refine w_idiv dX12_adopt_6 (by decide) ?_
  refine w_icmp_ge (t := 27) dX12_adopt_7 (by decide) (fun h => ?_) (fun h => ?_)
  · replace H := H.1 h
    exact w_vret dX12_adopt_27 rfl ⟨rfl, H⟩
  · replace H := H.2 h
    refine w_aload_n dX12_adopt_10 rfl rfl ?_
    refine w_iload_n dX12_adopt_11 rfl rfl ?_
    refine w_aload_n dX12_adopt_12 rfl rfl ?_
    refine w_aload_n dX12_adopt_13 rfl rfl ?_
    refine w_alen (v := 36) dX12_adopt_14 kd_266 (by decide) (by decide) ?_
    refine w_iconst (v := 2) dX12_adopt_15 (by decide) ?_
    refine w_idiv dX12_adopt_16 (by decide) ?_
    refine w_iload_n dX12_adopt_17 rfl rfl ?_
    refine w_iadd dX12_adopt_18 ?_
    refine w_iald dX12_adopt_19 kd_266 (by decide) H.1 ?_
    replace H := H.2
    refine w_iast dX12_adopt_20 kd_266 (by decide) H.1 (w_up fun I1 hI => ?_)
    replace H := H.2 I1 hI
    refine w_iinc (v := l1 + 1) (ls' := [some (.ref 266), some (.int (l1 + 1))]) dX12_adopt_21 rfl rfl (by decide) rfl rfl ?_
    refine w_goto (t := 2) dX12_adopt_24 (by decide) ?_
    skip
    exact H
set_option maxRecDepth 20000 in
theorem rX12_adopt_266 {I : MI} {Q : MI → Prop} (H : (LX12_adopt_266_2 0 I Q)) : Wv mX12_adopt [.ref 266] I Q := by
  show WP mX12_adopt 286 Rf0 0 [some (.ref 266), none] [] I (qv Q)
  refine w_iconst (v := 0) dX12_adopt_0 (by decide) ?_
  refine w_istore_n (ls' := [some (.ref 266), some (.int 0)]) dX12_adopt_1 rfl (by decide) rfl rfl ?_
  skip
  exact H
abbrev LX12_adopt_267_2 (l1 : Int32) (I : MI) (Q : MI → Prop) : Prop := WP mX12_adopt 286 Rf0 2 [some (.ref 267), some (.int l1)] [] I (qv Q)
set_option maxRecDepth 20000 in
theorem rX12_adopt_267_2 {l1 : Int32} {I : MI} {Q : MI → Prop} (H : (((36 / 2) ≤ l1 → (Q I)) ∧ (¬ (36 / 2) ≤ l1 → (vp_in ((36 / 2) + l1) 36 ∧ vp_in l1 36 ∧ ∀ I1 : MI, I1 = up2 I 267 l1.toNatClampNeg (I 267 ((36 / 2) + l1).toNatClampNeg) → LX12_adopt_267_2 (l1 + 1) I1 Q)))) : LX12_adopt_267_2 l1 I Q := by
  show WP mX12_adopt 286 Rf0 2 [some (.ref 267), some (.int l1)] [] I (qv Q)
  refine w_iload_n dX12_adopt_2 rfl rfl ?_
  refine w_aload_n dX12_adopt_3 rfl rfl ?_
  refine w_alen (v := 36) dX12_adopt_4 kd_267 (by decide) (by decide) ?_
  refine w_iconst (v := 2) dX12_adopt_5 (by decide) ?_
  refine w_idiv dX12_adopt_6 (by decide) ?_
  refine w_icmp_ge (t := 27) dX12_adopt_7 (by decide) (fun h => ?_) (fun h => ?_)
  · replace H := H.1 h
    exact w_vret dX12_adopt_27 rfl ⟨rfl, H⟩
  · replace H := H.2 h
    refine w_aload_n dX12_adopt_10 rfl rfl ?_
    refine w_iload_n dX12_adopt_11 rfl rfl ?_
    refine w_aload_n dX12_adopt_12 rfl rfl ?_
    refine w_aload_n dX12_adopt_13 rfl rfl ?_
    refine w_alen (v := 36) dX12_adopt_14 kd_267 (by decide) (by decide) ?_
    refine w_iconst (v := 2) dX12_adopt_15 (by decide) ?_
    refine w_idiv dX12_adopt_16 (by decide) ?_
    refine w_iload_n dX12_adopt_17 rfl rfl ?_
    refine w_iadd dX12_adopt_18 ?_
    refine w_iald dX12_adopt_19 kd_267 (by decide) H.1 ?_
    replace H := H.2
    refine w_iast dX12_adopt_20 kd_267 (by decide) H.1 (w_up fun I1 hI => ?_)
    replace H := H.2 I1 hI
    refine w_iinc (v := l1 + 1) (ls' := [some (.ref 267), some (.int (l1 + 1))]) dX12_adopt_21 rfl rfl (by decide) rfl rfl ?_
    refine w_goto (t := 2) dX12_adopt_24 (by decide) ?_
    skip
    exact H
set_option maxRecDepth 20000 in
theorem rX12_adopt_267 {I : MI} {Q : MI → Prop} (H : (LX12_adopt_267_2 0 I Q)) : Wv mX12_adopt [.ref 267] I Q := by
  show WP mX12_adopt 286 Rf0 0 [some (.ref 267), none] [] I (qv Q)
  refine w_iconst (v := 0) dX12_adopt_0 (by decide) ?_
  refine w_istore_n (ls' := [some (.ref 267), some (.int 0)]) dX12_adopt_1 rfl (by decide) rfl rfl ?_
  skip
  exact H
abbrev LX12_adopt_268_2 (l1 : Int32) (I : MI) (Q : MI → Prop) : Prop := WP mX12_adopt 286 Rf0 2 [some (.ref 268), some (.int l1)] [] I (qv Q)
set_option maxRecDepth 20000 in
theorem rX12_adopt_268_2 {l1 : Int32} {I : MI} {Q : MI → Prop} (H : (((36 / 2) ≤ l1 → (Q I)) ∧ (¬ (36 / 2) ≤ l1 → (vp_in ((36 / 2) + l1) 36 ∧ vp_in l1 36 ∧ ∀ I1 : MI, I1 = up2 I 268 l1.toNatClampNeg (I 268 ((36 / 2) + l1).toNatClampNeg) → LX12_adopt_268_2 (l1 + 1) I1 Q)))) : LX12_adopt_268_2 l1 I Q := by
  show WP mX12_adopt 286 Rf0 2 [some (.ref 268), some (.int l1)] [] I (qv Q)
  refine w_iload_n dX12_adopt_2 rfl rfl ?_
  refine w_aload_n dX12_adopt_3 rfl rfl ?_
  refine w_alen (v := 36) dX12_adopt_4 kd_268 (by decide) (by decide) ?_
  refine w_iconst (v := 2) dX12_adopt_5 (by decide) ?_
  refine w_idiv dX12_adopt_6 (by decide) ?_
  refine w_icmp_ge (t := 27) dX12_adopt_7 (by decide) (fun h => ?_) (fun h => ?_)
  · replace H := H.1 h
    exact w_vret dX12_adopt_27 rfl ⟨rfl, H⟩
  · replace H := H.2 h
    refine w_aload_n dX12_adopt_10 rfl rfl ?_
    refine w_iload_n dX12_adopt_11 rfl rfl ?_
    refine w_aload_n dX12_adopt_12 rfl rfl ?_
    refine w_aload_n dX12_adopt_13 rfl rfl ?_
    refine w_alen (v := 36) dX12_adopt_14 kd_268 (by decide) (by decide) ?_
    refine w_iconst (v := 2) dX12_adopt_15 (by decide) ?_
    refine w_idiv dX12_adopt_16 (by decide) ?_
    refine w_iload_n dX12_adopt_17 rfl rfl ?_
    refine w_iadd dX12_adopt_18 ?_
    refine w_iald dX12_adopt_19 kd_268 (by decide) H.1 ?_
    replace H := H.2
    refine w_iast dX12_adopt_20 kd_268 (by decide) H.1 (w_up fun I1 hI => ?_)
    replace H := H.2 I1 hI
    refine w_iinc (v := l1 + 1) (ls' := [some (.ref 268), some (.int (l1 + 1))]) dX12_adopt_21 rfl rfl (by decide) rfl rfl ?_
    refine w_goto (t := 2) dX12_adopt_24 (by decide) ?_
    skip
    exact H
set_option maxRecDepth 20000 in
theorem rX12_adopt_268 {I : MI} {Q : MI → Prop} (H : (LX12_adopt_268_2 0 I Q)) : Wv mX12_adopt [.ref 268] I Q := by
  show WP mX12_adopt 286 Rf0 0 [some (.ref 268), none] [] I (qv Q)
  refine w_iconst (v := 0) dX12_adopt_0 (by decide) ?_
  refine w_istore_n (ls' := [some (.ref 268), some (.int 0)]) dX12_adopt_1 rfl (by decide) rfl rfl ?_
  skip
  exact H
abbrev LX12_adopt_269_2 (l1 : Int32) (I : MI) (Q : MI → Prop) : Prop := WP mX12_adopt 286 Rf0 2 [some (.ref 269), some (.int l1)] [] I (qv Q)
set_option maxRecDepth 20000 in
theorem rX12_adopt_269_2 {l1 : Int32} {I : MI} {Q : MI → Prop} (H : (((36 / 2) ≤ l1 → (Q I)) ∧ (¬ (36 / 2) ≤ l1 → (vp_in ((36 / 2) + l1) 36 ∧ vp_in l1 36 ∧ ∀ I1 : MI, I1 = up2 I 269 l1.toNatClampNeg (I 269 ((36 / 2) + l1).toNatClampNeg) → LX12_adopt_269_2 (l1 + 1) I1 Q)))) : LX12_adopt_269_2 l1 I Q := by
  show WP mX12_adopt 286 Rf0 2 [some (.ref 269), some (.int l1)] [] I (qv Q)
  refine w_iload_n dX12_adopt_2 rfl rfl ?_
  refine w_aload_n dX12_adopt_3 rfl rfl ?_
  refine w_alen (v := 36) dX12_adopt_4 kd_269 (by decide) (by decide) ?_
  refine w_iconst (v := 2) dX12_adopt_5 (by decide) ?_
  refine w_idiv dX12_adopt_6 (by decide) ?_
  refine w_icmp_ge (t := 27) dX12_adopt_7 (by decide) (fun h => ?_) (fun h => ?_)
  · replace H := H.1 h
    exact w_vret dX12_adopt_27 rfl ⟨rfl, H⟩
  · replace H := H.2 h
    refine w_aload_n dX12_adopt_10 rfl rfl ?_
    refine w_iload_n dX12_adopt_11 rfl rfl ?_
    refine w_aload_n dX12_adopt_12 rfl rfl ?_
    refine w_aload_n dX12_adopt_13 rfl rfl ?_
    refine w_alen (v := 36) dX12_adopt_14 kd_269 (by decide) (by decide) ?_
    refine w_iconst (v := 2) dX12_adopt_15 (by decide) ?_
    refine w_idiv dX12_adopt_16 (by decide) ?_
    refine w_iload_n dX12_adopt_17 rfl rfl ?_
    refine w_iadd dX12_adopt_18 ?_
    refine w_iald dX12_adopt_19 kd_269 (by decide) H.1 ?_
    replace H := H.2
    refine w_iast dX12_adopt_20 kd_269 (by decide) H.1 (w_up fun I1 hI => ?_)
    replace H := H.2 I1 hI
    refine w_iinc (v := l1 + 1) (ls' := [some (.ref 269), some (.int (l1 + 1))]) dX12_adopt_21 rfl rfl (by decide) rfl rfl ?_
    refine w_goto (t := 2) dX12_adopt_24 (by decide) ?_
    skip
    exact H
set_option maxRecDepth 20000 in
theorem rX12_adopt_269 {I : MI} {Q : MI → Prop} (H : (LX12_adopt_269_2 0 I Q)) : Wv mX12_adopt [.ref 269] I Q := by
  show WP mX12_adopt 286 Rf0 0 [some (.ref 269), none] [] I (qv Q)
  refine w_iconst (v := 0) dX12_adopt_0 (by decide) ?_
  refine w_istore_n (ls' := [some (.ref 269), some (.int 0)]) dX12_adopt_1 rfl (by decide) rfl rfl ?_
  skip
  exact H
abbrev LX12_adopt_270_2 (l1 : Int32) (I : MI) (Q : MI → Prop) : Prop := WP mX12_adopt 286 Rf0 2 [some (.ref 270), some (.int l1)] [] I (qv Q)
set_option maxRecDepth 20000 in
theorem rX12_adopt_270_2 {l1 : Int32} {I : MI} {Q : MI → Prop} (H : (((24 / 2) ≤ l1 → (Q I)) ∧ (¬ (24 / 2) ≤ l1 → (vp_in ((24 / 2) + l1) 24 ∧ vp_in l1 24 ∧ ∀ I1 : MI, I1 = up2 I 270 l1.toNatClampNeg (I 270 ((24 / 2) + l1).toNatClampNeg) → LX12_adopt_270_2 (l1 + 1) I1 Q)))) : LX12_adopt_270_2 l1 I Q := by
  show WP mX12_adopt 286 Rf0 2 [some (.ref 270), some (.int l1)] [] I (qv Q)
  refine w_iload_n dX12_adopt_2 rfl rfl ?_
  refine w_aload_n dX12_adopt_3 rfl rfl ?_
  refine w_alen (v := 24) dX12_adopt_4 kd_270 (by decide) (by decide) ?_
  refine w_iconst (v := 2) dX12_adopt_5 (by decide) ?_
  refine w_idiv dX12_adopt_6 (by decide) ?_
  refine w_icmp_ge (t := 27) dX12_adopt_7 (by decide) (fun h => ?_) (fun h => ?_)
  · replace H := H.1 h
    exact w_vret dX12_adopt_27 rfl ⟨rfl, H⟩
  · replace H := H.2 h
    refine w_aload_n dX12_adopt_10 rfl rfl ?_
    refine w_iload_n dX12_adopt_11 rfl rfl ?_
    refine w_aload_n dX12_adopt_12 rfl rfl ?_
    refine w_aload_n dX12_adopt_13 rfl rfl ?_
    refine w_alen (v := 24) dX12_adopt_14 kd_270 (by decide) (by decide) ?_
    refine w_iconst (v := 2) dX12_adopt_15 (by decide) ?_
    refine w_idiv dX12_adopt_16 (by decide) ?_
    refine w_iload_n dX12_adopt_17 rfl rfl ?_
    refine w_iadd dX12_adopt_18 ?_
    refine w_iald dX12_adopt_19 kd_270 (by decide) H.1 ?_
    replace H := H.2
    refine w_iast dX12_adopt_20 kd_270 (by decide) H.1 (w_up fun I1 hI => ?_)
    replace H := H.2 I1 hI
    refine w_iinc (v := l1 + 1) (ls' := [some (.ref 270), some (.int (l1 + 1))]) dX12_adopt_21 rfl rfl (by decide) rfl rfl ?_
    refine w_goto (t := 2) dX12_adopt_24 (by decide) ?_
    skip
    exact H
set_option maxRecDepth 20000 in
theorem rX12_adopt_270 {I : MI} {Q : MI → Prop} (H : (LX12_adopt_270_2 0 I Q)) : Wv mX12_adopt [.ref 270] I Q := by
  show WP mX12_adopt 286 Rf0 0 [some (.ref 270), none] [] I (qv Q)
  refine w_iconst (v := 0) dX12_adopt_0 (by decide) ?_
  refine w_istore_n (ls' := [some (.ref 270), some (.int 0)]) dX12_adopt_1 rfl (by decide) rfl rfl ?_
  skip
  exact H
abbrev LX12_adopt_271_2 (l1 : Int32) (I : MI) (Q : MI → Prop) : Prop := WP mX12_adopt 286 Rf0 2 [some (.ref 271), some (.int l1)] [] I (qv Q)
set_option maxRecDepth 20000 in
theorem rX12_adopt_271_2 {l1 : Int32} {I : MI} {Q : MI → Prop} (H : (((24 / 2) ≤ l1 → (Q I)) ∧ (¬ (24 / 2) ≤ l1 → (vp_in ((24 / 2) + l1) 24 ∧ vp_in l1 24 ∧ ∀ I1 : MI, I1 = up2 I 271 l1.toNatClampNeg (I 271 ((24 / 2) + l1).toNatClampNeg) → LX12_adopt_271_2 (l1 + 1) I1 Q)))) : LX12_adopt_271_2 l1 I Q := by
  show WP mX12_adopt 286 Rf0 2 [some (.ref 271), some (.int l1)] [] I (qv Q)
  refine w_iload_n dX12_adopt_2 rfl rfl ?_
  refine w_aload_n dX12_adopt_3 rfl rfl ?_
  refine w_alen (v := 24) dX12_adopt_4 kd_271 (by decide) (by decide) ?_
  refine w_iconst (v := 2) dX12_adopt_5 (by decide) ?_
  refine w_idiv dX12_adopt_6 (by decide) ?_
  refine w_icmp_ge (t := 27) dX12_adopt_7 (by decide) (fun h => ?_) (fun h => ?_)
  · replace H := H.1 h
    exact w_vret dX12_adopt_27 rfl ⟨rfl, H⟩
  · replace H := H.2 h
    refine w_aload_n dX12_adopt_10 rfl rfl ?_
    refine w_iload_n dX12_adopt_11 rfl rfl ?_
    refine w_aload_n dX12_adopt_12 rfl rfl ?_
    refine w_aload_n dX12_adopt_13 rfl rfl ?_
    refine w_alen (v := 24) dX12_adopt_14 kd_271 (by decide) (by decide) ?_
    refine w_iconst (v := 2) dX12_adopt_15 (by decide) ?_
    refine w_idiv dX12_adopt_16 (by decide) ?_
    refine w_iload_n dX12_adopt_17 rfl rfl ?_
    refine w_iadd dX12_adopt_18 ?_
    refine w_iald dX12_adopt_19 kd_271 (by decide) H.1 ?_
    replace H := H.2
    refine w_iast dX12_adopt_20 kd_271 (by decide) H.1 (w_up fun I1 hI => ?_)
    replace H := H.2 I1 hI
    refine w_iinc (v := l1 + 1) (ls' := [some (.ref 271), some (.int (l1 + 1))]) dX12_adopt_21 rfl rfl (by decide) rfl rfl ?_
    refine w_goto (t := 2) dX12_adopt_24 (by decide) ?_
    skip
    exact H
set_option maxRecDepth 20000 in
theorem rX12_adopt_271 {I : MI} {Q : MI → Prop} (H : (LX12_adopt_271_2 0 I Q)) : Wv mX12_adopt [.ref 271] I Q := by
  show WP mX12_adopt 286 Rf0 0 [some (.ref 271), none] [] I (qv Q)
  refine w_iconst (v := 0) dX12_adopt_0 (by decide) ?_
  refine w_istore_n (ls' := [some (.ref 271), some (.int 0)]) dX12_adopt_1 rfl (by decide) rfl rfl ?_
  skip
  exact H
abbrev LX12_adopt_272_2 (l1 : Int32) (I : MI) (Q : MI → Prop) : Prop := WP mX12_adopt 286 Rf0 2 [some (.ref 272), some (.int l1)] [] I (qv Q)
set_option maxRecDepth 20000 in
theorem rX12_adopt_272_2 {l1 : Int32} {I : MI} {Q : MI → Prop} (H : (((24 / 2) ≤ l1 → (Q I)) ∧ (¬ (24 / 2) ≤ l1 → (vp_in ((24 / 2) + l1) 24 ∧ vp_in l1 24 ∧ ∀ I1 : MI, I1 = up2 I 272 l1.toNatClampNeg (I 272 ((24 / 2) + l1).toNatClampNeg) → LX12_adopt_272_2 (l1 + 1) I1 Q)))) : LX12_adopt_272_2 l1 I Q := by
  show WP mX12_adopt 286 Rf0 2 [some (.ref 272), some (.int l1)] [] I (qv Q)
  refine w_iload_n dX12_adopt_2 rfl rfl ?_
  refine w_aload_n dX12_adopt_3 rfl rfl ?_
  refine w_alen (v := 24) dX12_adopt_4 kd_272 (by decide) (by decide) ?_
  refine w_iconst (v := 2) dX12_adopt_5 (by decide) ?_
  refine w_idiv dX12_adopt_6 (by decide) ?_
  refine w_icmp_ge (t := 27) dX12_adopt_7 (by decide) (fun h => ?_) (fun h => ?_)
  · replace H := H.1 h
    exact w_vret dX12_adopt_27 rfl ⟨rfl, H⟩
  · replace H := H.2 h
    refine w_aload_n dX12_adopt_10 rfl rfl ?_
    refine w_iload_n dX12_adopt_11 rfl rfl ?_
    refine w_aload_n dX12_adopt_12 rfl rfl ?_
    refine w_aload_n dX12_adopt_13 rfl rfl ?_
    refine w_alen (v := 24) dX12_adopt_14 kd_272 (by decide) (by decide) ?_
    refine w_iconst (v := 2) dX12_adopt_15 (by decide) ?_
    refine w_idiv dX12_adopt_16 (by decide) ?_
    refine w_iload_n dX12_adopt_17 rfl rfl ?_
    refine w_iadd dX12_adopt_18 ?_
    refine w_iald dX12_adopt_19 kd_272 (by decide) H.1 ?_
    replace H := H.2
    refine w_iast dX12_adopt_20 kd_272 (by decide) H.1 (w_up fun I1 hI => ?_)
    replace H := H.2 I1 hI
    refine w_iinc (v := l1 + 1) (ls' := [some (.ref 272), some (.int (l1 + 1))]) dX12_adopt_21 rfl rfl (by decide) rfl rfl ?_
    refine w_goto (t := 2) dX12_adopt_24 (by decide) ?_
    skip
    exact H
set_option maxRecDepth 20000 in
theorem rX12_adopt_272 {I : MI} {Q : MI → Prop} (H : (LX12_adopt_272_2 0 I Q)) : Wv mX12_adopt [.ref 272] I Q := by
  show WP mX12_adopt 286 Rf0 0 [some (.ref 272), none] [] I (qv Q)
  refine w_iconst (v := 0) dX12_adopt_0 (by decide) ?_
  refine w_istore_n (ls' := [some (.ref 272), some (.int 0)]) dX12_adopt_1 rfl (by decide) rfl rfl ?_
  skip
  exact H
abbrev LX12_adopt_273_2 (l1 : Int32) (I : MI) (Q : MI → Prop) : Prop := WP mX12_adopt 286 Rf0 2 [some (.ref 273), some (.int l1)] [] I (qv Q)
set_option maxRecDepth 20000 in
theorem rX12_adopt_273_2 {l1 : Int32} {I : MI} {Q : MI → Prop} (H : (((168 / 2) ≤ l1 → (Q I)) ∧ (¬ (168 / 2) ≤ l1 → (vp_in ((168 / 2) + l1) 168 ∧ vp_in l1 168 ∧ ∀ I1 : MI, I1 = up2 I 273 l1.toNatClampNeg (I 273 ((168 / 2) + l1).toNatClampNeg) → LX12_adopt_273_2 (l1 + 1) I1 Q)))) : LX12_adopt_273_2 l1 I Q := by
  show WP mX12_adopt 286 Rf0 2 [some (.ref 273), some (.int l1)] [] I (qv Q)
  refine w_iload_n dX12_adopt_2 rfl rfl ?_
  refine w_aload_n dX12_adopt_3 rfl rfl ?_
  refine w_alen (v := 168) dX12_adopt_4 kd_273 (by decide) (by decide) ?_
  refine w_iconst (v := 2) dX12_adopt_5 (by decide) ?_
  refine w_idiv dX12_adopt_6 (by decide) ?_
  refine w_icmp_ge (t := 27) dX12_adopt_7 (by decide) (fun h => ?_) (fun h => ?_)
  · replace H := H.1 h
    exact w_vret dX12_adopt_27 rfl ⟨rfl, H⟩
  · replace H := H.2 h
    refine w_aload_n dX12_adopt_10 rfl rfl ?_
    refine w_iload_n dX12_adopt_11 rfl rfl ?_
    refine w_aload_n dX12_adopt_12 rfl rfl ?_
    refine w_aload_n dX12_adopt_13 rfl rfl ?_
    refine w_alen (v := 168) dX12_adopt_14 kd_273 (by decide) (by decide) ?_
    refine w_iconst (v := 2) dX12_adopt_15 (by decide) ?_
    refine w_idiv dX12_adopt_16 (by decide) ?_
    refine w_iload_n dX12_adopt_17 rfl rfl ?_
    refine w_iadd dX12_adopt_18 ?_
    refine w_iald dX12_adopt_19 kd_273 (by decide) H.1 ?_
    replace H := H.2
    refine w_iast dX12_adopt_20 kd_273 (by decide) H.1 (w_up fun I1 hI => ?_)
    replace H := H.2 I1 hI
    refine w_iinc (v := l1 + 1) (ls' := [some (.ref 273), some (.int (l1 + 1))]) dX12_adopt_21 rfl rfl (by decide) rfl rfl ?_
    refine w_goto (t := 2) dX12_adopt_24 (by decide) ?_
    skip
    exact H
set_option maxRecDepth 20000 in
theorem rX12_adopt_273 {I : MI} {Q : MI → Prop} (H : (LX12_adopt_273_2 0 I Q)) : Wv mX12_adopt [.ref 273] I Q := by
  show WP mX12_adopt 286 Rf0 0 [some (.ref 273), none] [] I (qv Q)
  refine w_iconst (v := 0) dX12_adopt_0 (by decide) ?_
  refine w_istore_n (ls' := [some (.ref 273), some (.int 0)]) dX12_adopt_1 rfl (by decide) rfl rfl ?_
  skip
  exact H
