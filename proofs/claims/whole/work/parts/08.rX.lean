def IsLg (c : Nat) : Prop := kd c = (0, 3) ∧ c + 3 < 286 ∧ Rf0 c 3 = some (c + 1) ∧ Rf0 c 4 = some (c + 2) ∧ Rf0 c 5 = some (c + 3) ∧ kd (c + 1) = (1, 12) ∧ kd (c + 2) = (1, 12) ∧ kd (c + 3) = (1, 12)
def IsSt (c : Nat) : Prop := kd c = (0, 8) ∧ c + 13 < 286 ∧ Rf0 c 2 = some (c + 1) ∧ Rf0 c 3 = some (c + 2) ∧ Rf0 c 4 = some (c + 3) ∧ Rf0 c 5 = some (c + 4) ∧ Rf0 c 6 = some (c + 5) ∧ Rf0 c 7 = some (c + 6) ∧ Rf0 c 8 = some (c + 7) ∧ Rf0 c 9 = some (c + 8) ∧ Rf0 c 10 = some (c + 9) ∧ Rf0 c 11 = some (c + 10) ∧ kd (c + 1) = (1, 84) ∧ kd (c + 2) = (1, 12) ∧ kd (c + 3) = (1, 18) ∧ kd (c + 4) = (1, 18) ∧ kd (c + 5) = (1, 12) ∧ kd (c + 6) = (1, 12) ∧ kd (c + 7) = (1, 12) ∧ kd (c + 8) = (1, 12) ∧ kd (c + 9) = (1, 100) ∧ IsLg (c + 10)
theorem dX0_driveTo_0 : decode cX0_driveTo 0 = .ok (.aload_n 0, 1) := by decide +kernel
theorem dX0_driveTo_1 : decode cX0_driveTo 1 = .ok (.getfield 30, 3) := by decide +kernel
theorem dX0_driveTo_4 : decode cX0_driveTo 4 = .ok (.aload_n 0, 1) := by decide +kernel
theorem dX0_driveTo_5 : decode cX0_driveTo 5 = .ok (.getfield 37, 3) := by decide +kernel
theorem dX0_driveTo_8 : decode cX0_driveTo 8 = .ok (.aload_n 0, 1) := by decide +kernel
theorem dX0_driveTo_9 : decode cX0_driveTo 9 = .ok (.getfield 46, 3) := by decide +kernel
theorem dX0_driveTo_12 : decode cX0_driveTo 12 = .ok (.invokevirtual 101, 3) := by decide +kernel
theorem dX0_driveTo_15 : decode cX0_driveTo 15 = .ok (.iload_n 1, 1) := by decide +kernel
theorem dX0_driveTo_16 : decode cX0_driveTo 16 = .ok (.iaload, 1) := by decide +kernel
theorem dX0_driveTo_17 : decode cX0_driveTo 17 = .ok (.istore_n 2, 1) := by decide +kernel
theorem dX0_driveTo_18 : decode cX0_driveTo 18 = .ok (.iload_n 2, 1) := by decide +kernel
theorem dX0_driveTo_19 : decode cX0_driveTo 19 = .ok (.ldc 107, 2) := by decide +kernel
theorem dX0_driveTo_21 : decode cX0_driveTo 21 = .ok (.if_icmp .ne 5, 3) := by decide +kernel
theorem dX0_driveTo_24 : decode cX0_driveTo 24 = .ok (.iconst 0, 1) := by decide +kernel
theorem dX0_driveTo_25 : decode cX0_driveTo 25 = .ok (.ireturn, 1) := by decide +kernel
theorem dX0_driveTo_26 : decode cX0_driveTo 26 = .ok (.aload_n 0, 1) := by decide +kernel
theorem dX0_driveTo_27 : decode cX0_driveTo 27 = .ok (.iload_n 1, 1) := by decide +kernel
theorem dX0_driveTo_28 : decode cX0_driveTo 28 = .ok (.putfield 37, 3) := by decide +kernel
theorem dX0_driveTo_31 : decode cX0_driveTo 31 = .ok (.aload_n 0, 1) := by decide +kernel
theorem dX0_driveTo_32 : decode cX0_driveTo 32 = .ok (.iload_n 2, 1) := by decide +kernel
theorem dX0_driveTo_33 : decode cX0_driveTo 33 = .ok (.putfield 46, 3) := by decide +kernel
theorem dX0_driveTo_36 : decode cX0_driveTo 36 = .ok (.iconst 1, 1) := by decide +kernel
theorem dX0_driveTo_37 : decode cX0_driveTo 37 = .ok (.ireturn, 1) := by decide +kernel
set_option maxRecDepth 20000 in
theorem rX0_driveTo {a1 : Int32} {I : MI} {Q : Int32 → MI → Prop} (H : (Wr mX4_arrivalsFrom [.ref 45, .int (I 56 5), .int (I 56 6)] I (fun r2 I1 => r2 = 46 ∧ (vp_in a1 10 ∧ (¬ (I1 46 a1.toNatClampNeg) = 2147483647 → (∀ I3 : MI, I3 = up2 I1 56 5 a1 → ∀ I4 : MI, I4 = up2 I3 56 6 (I1 46 a1.toNatClampNeg) → Q 1 I4)) ∧ ((I1 46 a1.toNatClampNeg) = 2147483647 → (Q 0 I1)))))) : Wi mX0_driveTo [.ref 56, .int a1] I Q := by
  show WP mX0_driveTo 286 Rf0 0 [some (.ref 56), some (.int a1), none] [] I (qi Q)
  refine w_aload_n dX0_driveTo_0 rfl rfl ?_
  refine w_getR dX0_driveTo_1 fl_0_30 okC0 kd_56 (by decide) (by decide) rfl rf_56_3 ?_
  refine w_aload_n dX0_driveTo_4 rfl rfl ?_
  refine w_getI dX0_driveTo_5 fl_0_37 okC0 kd_56 (by decide) (by decide) rfl ?_
  refine w_aload_n dX0_driveTo_8 rfl rfl ?_
  refine w_getI dX0_driveTo_9 fl_0_46 okC0 kd_56 (by decide) (by decide) rfl ?_
  refine w_callV (st := []) (As := [.int (I 56 5), .int (I 56 6)]) dX0_driveTo_12 ml_0_101 okX4_arrivalsFrom kd_45 (by decide) rfl rfl rfl (Nat.le_of_ble_eq_true rfl) (by decide) (Nat.le_of_ble_eq_true rfl) (wc_r H (fun r2 I1 H => ?_))
  obtain ⟨rfl, H⟩ := H
  refine w_iload_n dX0_driveTo_15 rfl rfl ?_
  refine w_iald dX0_driveTo_16 kd_46 (by decide) H.1 ?_
  replace H := H.2
  refine w_istore_n (ls' := [some (.ref 56), some (.int a1), some (.int (I1 46 a1.toNatClampNeg))]) dX0_driveTo_17 rfl (by decide) rfl rfl ?_
  refine w_iload_n dX0_driveTo_18 rfl rfl ?_
  refine w_ldc (v := 2147483647) dX0_driveTo_19 kl_0_107 ?_
  refine w_icmp_ne (t := 26) dX0_driveTo_21 (by decide) (fun h => ?_) (fun h => ?_)
  · replace H := H.1 h
    refine w_aload_n dX0_driveTo_26 rfl rfl ?_
    refine w_iload_n dX0_driveTo_27 rfl rfl ?_
    refine w_putI dX0_driveTo_28 fl_0_37 okC0 kd_56 (by decide) (by decide) rfl rfl rfl (w_up fun I3 hI => ?_)
    replace H := H I3 hI
    refine w_aload_n dX0_driveTo_31 rfl rfl ?_
    refine w_iload_n dX0_driveTo_32 rfl rfl ?_
    refine w_putI dX0_driveTo_33 fl_0_46 okC0 kd_56 (by decide) (by decide) rfl rfl rfl (w_up fun I4 hI => ?_)
    replace H := H I4 hI
    refine w_iconst (v := 1) dX0_driveTo_36 (by decide) ?_
    exact w_zret dX0_driveTo_37 rfl rfl ⟨_, rfl, H⟩
  · replace H := H.2 h
    refine w_iconst (v := 0) dX0_driveTo_24 (by decide) ?_
    exact w_zret dX0_driveTo_25 rfl rfl ⟨_, rfl, H⟩
theorem dX0_serveStop_0 : decode cX0_serveStop 0 = .ok (.iconst 0, 1) := by decide +kernel
theorem dX0_serveStop_1 : decode cX0_serveStop 1 = .ok (.istore_n 2, 1) := by decide +kernel
theorem dX0_serveStop_2 : decode cX0_serveStop 2 = .ok (.iload_n 2, 1) := by decide +kernel
theorem dX0_serveStop_3 : decode cX0_serveStop 3 = .ok (.aload_n 0, 1) := by decide +kernel
theorem dX0_serveStop_4 : decode cX0_serveStop 4 = .ok (.getfield 18, 3) := by decide +kernel
theorem dX0_serveStop_7 : decode cX0_serveStop 7 = .ok (.getfield 108, 3) := by decide +kernel
theorem dX0_serveStop_10 : decode cX0_serveStop 10 = .ok (.if_icmp .ge 75, 3) := by decide +kernel
theorem dX0_serveStop_13 : decode cX0_serveStop 13 = .ok (.aload_n 0, 1) := by decide +kernel
theorem dX0_serveStop_14 : decode cX0_serveStop 14 = .ok (.getfield 73, 3) := by decide +kernel
theorem dX0_serveStop_17 : decode cX0_serveStop 17 = .ok (.ifCond .ne 68, 3) := by decide +kernel
theorem dX0_serveStop_20 : decode cX0_serveStop 20 = .ok (.aload_n 0, 1) := by decide +kernel
theorem dX0_serveStop_21 : decode cX0_serveStop 21 = .ok (.getfield 26, 3) := by decide +kernel
theorem dX0_serveStop_24 : decode cX0_serveStop 24 = .ok (.iload_n 2, 1) := by decide +kernel
theorem dX0_serveStop_25 : decode cX0_serveStop 25 = .ok (.invokevirtual 111, 3) := by decide +kernel
theorem dX0_serveStop_28 : decode cX0_serveStop 28 = .ok (.istore_n 3, 1) := by decide +kernel
theorem dX0_serveStop_29 : decode cX0_serveStop 29 = .ok (.aload_n 0, 1) := by decide +kernel
theorem dX0_serveStop_30 : decode cX0_serveStop 30 = .ok (.getfield 18, 3) := by decide +kernel
theorem dX0_serveStop_33 : decode cX0_serveStop 33 = .ok (.getfield 114, 3) := by decide +kernel
theorem dX0_serveStop_36 : decode cX0_serveStop 36 = .ok (.iload_n 2, 1) := by decide +kernel
theorem dX0_serveStop_37 : decode cX0_serveStop 37 = .ok (.iaload, 1) := by decide +kernel
theorem dX0_serveStop_38 : decode cX0_serveStop 38 = .ok (.iload_n 1, 1) := by decide +kernel
theorem dX0_serveStop_39 : decode cX0_serveStop 39 = .ok (.if_icmp .ne 40, 3) := by decide +kernel
theorem dX0_serveStop_42 : decode cX0_serveStop 42 = .ok (.iload_n 3, 1) := by decide +kernel
theorem dX0_serveStop_43 : decode cX0_serveStop 43 = .ok (.ifCond .ne 6, 3) := by decide +kernel
theorem dX0_serveStop_46 : decode cX0_serveStop 46 = .ok (.goto 33, 3) := by decide +kernel
theorem dX0_serveStop_49 : decode cX0_serveStop 49 = .ok (.aload_n 0, 1) := by decide +kernel
theorem dX0_serveStop_50 : decode cX0_serveStop 50 = .ok (.getfield 67, 3) := by decide +kernel
theorem dX0_serveStop_53 : decode cX0_serveStop 53 = .ok (.iload_n 3, 1) := by decide +kernel
theorem dX0_serveStop_54 : decode cX0_serveStop 54 = .ok (.if_icmp .ge 19, 3) := by decide +kernel
theorem dX0_serveStop_57 : decode cX0_serveStop 57 = .ok (.aload_n 0, 1) := by decide +kernel
theorem dX0_serveStop_58 : decode cX0_serveStop 58 = .ok (.iload_n 1, 1) := by decide +kernel
theorem dX0_serveStop_59 : decode cX0_serveStop 59 = .ok (.invokevirtual 117, 3) := by decide +kernel
theorem dX0_serveStop_62 : decode cX0_serveStop 62 = .ok (.ifCond .ne 11, 3) := by decide +kernel
theorem dX0_serveStop_65 : decode cX0_serveStop 65 = .ok (.aload_n 0, 1) := by decide +kernel
theorem dX0_serveStop_66 : decode cX0_serveStop 66 = .ok (.iconst 1, 1) := by decide +kernel
theorem dX0_serveStop_67 : decode cX0_serveStop 67 = .ok (.putfield 73, 3) := by decide +kernel
theorem dX0_serveStop_70 : decode cX0_serveStop 70 = .ok (.goto 9, 3) := by decide +kernel
theorem dX0_serveStop_73 : decode cX0_serveStop 73 = .ok (.aload_n 0, 1) := by decide +kernel
theorem dX0_serveStop_74 : decode cX0_serveStop 74 = .ok (.iload_n 2, 1) := by decide +kernel
theorem dX0_serveStop_75 : decode cX0_serveStop 75 = .ok (.iload_n 3, 1) := by decide +kernel
theorem dX0_serveStop_76 : decode cX0_serveStop 76 = .ok (.invokevirtual 120, 3) := by decide +kernel
theorem dX0_serveStop_79 : decode cX0_serveStop 79 = .ok (.iinc 2 1, 3) := by decide +kernel
theorem dX0_serveStop_82 : decode cX0_serveStop 82 = .ok (.goto (-80), 3) := by decide +kernel
theorem dX0_serveStop_85 : decode cX0_serveStop 85 = .ok (.return_, 1) := by decide +kernel
abbrev LX0_serveStop_2 (l1 l2 : Int32) (I : MI) (Q : MI → Prop) : Prop := WP mX0_serveStop 286 Rf0 2 [some (.ref 56), some (.int l1), some (.int l2), none] [] I (qv Q)
abbrev LX0_serveStop_73 (l1 l2 l3 : Int32) (I : MI) (Q : MI → Prop) : Prop := WP mX0_serveStop 286 Rf0 73 [some (.ref 56), some (.int l1), some (.int l2), some (.int l3)] [] I (qv Q)
abbrev LX0_serveStop_79 (l1 l2 l3 : Int32) (I : MI) (Q : MI → Prop) : Prop := WP mX0_serveStop 286 Rf0 79 [some (.ref 56), some (.int l1), some (.int l2), some (.int l3)] [] I (qv Q)
set_option maxRecDepth 20000 in
theorem rX0_serveStop_2 {l1 l2 : Int32} {I : MI} {Q : MI → Prop} (H : (((I 24 2) ≤ l2 → (Q I)) ∧ (¬ (I 24 2) ≤ l2 → ((¬ (I 56 10) = 0 → (Q I)) ∧ ((I 56 10) = 0 → (Wi mX10_demandOf [.ref 44, .int l2] I (fun r2 I1 => (vp_in l2 12 ∧ (¬ (I1 28 l2.toNatClampNeg) = l1 → (LX0_serveStop_79 l1 l2 r2 I1 Q)) ∧ ((I1 28 l2.toNatClampNeg) = l1 → ((¬ r2 = 0 → ((r2 ≤ (I1 56 7) → (LX0_serveStop_73 l1 l2 r2 I1 Q)) ∧ (¬ r2 ≤ (I1 56 7) → (Wi mX0_reload [.ref 56, .int l1] I1 (fun r4 I3 => ((¬ r4 = 0 → (LX0_serveStop_73 l1 l2 r2 I3 Q)) ∧ (r4 = 0 → (∀ I5 : MI, I5 = up2 I3 56 10 1 → LX0_serveStop_79 l1 l2 r2 I5 Q)))))))) ∧ (r2 = 0 → (LX0_serveStop_79 l1 l2 r2 I1 Q)))))))))))) : LX0_serveStop_2 l1 l2 I Q := by
  show WP mX0_serveStop 286 Rf0 2 [some (.ref 56), some (.int l1), some (.int l2), none] [] I (qv Q)
  refine w_iload_n dX0_serveStop_2 rfl rfl ?_
  refine w_aload_n dX0_serveStop_3 rfl rfl ?_
  refine w_getR dX0_serveStop_4 fl_0_18 okC0 kd_56 (by decide) (by decide) rfl rf_56_0 ?_
  refine w_getI dX0_serveStop_7 fl_0_108 okC6 kd_24 (by decide) (by decide) rfl ?_
  refine w_icmp_ge (t := 85) dX0_serveStop_10 (by decide) (fun h => ?_) (fun h => ?_)
  · replace H := H.1 h
    exact w_vret dX0_serveStop_85 rfl ⟨rfl, H⟩
  · replace H := H.2 h
    refine w_aload_n dX0_serveStop_13 rfl rfl ?_
    refine w_getI dX0_serveStop_14 fl_0_73 okC0 kd_56 (by decide) (by decide) rfl ?_
    refine w_if_ne (t := 85) dX0_serveStop_17 (by decide) (fun h => ?_) (fun h => ?_)
    · replace H := H.1 h
      exact w_vret dX0_serveStop_85 rfl ⟨rfl, H⟩
    · replace H := H.2 h
      refine w_aload_n dX0_serveStop_20 rfl rfl ?_
      refine w_getR dX0_serveStop_21 fl_0_26 okC0 kd_56 (by decide) (by decide) rfl rf_56_2 ?_
      refine w_iload_n dX0_serveStop_24 rfl rfl ?_
      refine w_callV (st := []) (As := [.int l2]) dX0_serveStop_25 ml_0_111 okX10_demandOf kd_44 (by decide) rfl rfl rfl (Nat.le_of_ble_eq_true rfl) (by decide) (Nat.le_of_ble_eq_true rfl) (wc_i H (fun r2 I1 H => ?_))
      refine w_istore_n (ls' := [some (.ref 56), some (.int l1), some (.int l2), some (.int r2)]) dX0_serveStop_28 rfl (by decide) rfl rfl ?_
      refine w_aload_n dX0_serveStop_29 rfl rfl ?_
      refine w_getR dX0_serveStop_30 fl_0_18 okC0 kd_56 (by decide) (by decide) rfl rf_56_0 ?_
      refine w_getR dX0_serveStop_33 fl_0_114 okC6 kd_24 (by decide) (by decide) rfl rf_24_10 ?_
      refine w_iload_n dX0_serveStop_36 rfl rfl ?_
      refine w_iald dX0_serveStop_37 kd_28 (by decide) H.1 ?_
      replace H := H.2
      refine w_iload_n dX0_serveStop_38 rfl rfl ?_
      refine w_icmp_ne (t := 79) dX0_serveStop_39 (by decide) (fun h => ?_) (fun h => ?_)
      · replace H := H.1 h
        skip
        exact H
      · replace H := H.2 h
        refine w_iload_n dX0_serveStop_42 rfl rfl ?_
        refine w_if_ne (t := 49) dX0_serveStop_43 (by decide) (fun h => ?_) (fun h => ?_)
        · replace H := H.1 h
          refine w_aload_n dX0_serveStop_49 rfl rfl ?_
          refine w_getI dX0_serveStop_50 fl_0_67 okC0 kd_56 (by decide) (by decide) rfl ?_
          refine w_iload_n dX0_serveStop_53 rfl rfl ?_
          refine w_icmp_ge (t := 73) dX0_serveStop_54 (by decide) (fun h => ?_) (fun h => ?_)
          · replace H := H.1 h
            skip
            exact H
          · replace H := H.2 h
            refine w_aload_n dX0_serveStop_57 rfl rfl ?_
            refine w_iload_n dX0_serveStop_58 rfl rfl ?_
            refine w_callV (st := []) (As := [.int l1]) dX0_serveStop_59 ml_0_117 okX0_reload kd_56 (by decide) rfl rfl rfl (Nat.le_of_ble_eq_true rfl) (by decide) (Nat.le_of_ble_eq_true rfl) (wc_i H (fun r4 I3 H => ?_))
            refine w_if_ne (t := 73) dX0_serveStop_62 (by decide) (fun h => ?_) (fun h => ?_)
            · replace H := H.1 h
              skip
              exact H
            · replace H := H.2 h
              refine w_aload_n dX0_serveStop_65 rfl rfl ?_
              refine w_iconst (v := 1) dX0_serveStop_66 (by decide) ?_
              refine w_putZ dX0_serveStop_67 fl_0_73 okC0 kd_56 (by decide) (by decide) rfl rfl rfl (by decide) (w_up fun I5 hI => ?_)
              replace H := H I5 hI
              refine w_goto (t := 79) dX0_serveStop_70 (by decide) ?_
              skip
              exact H
        · replace H := H.2 h
          refine w_goto (t := 79) dX0_serveStop_46 (by decide) ?_
          skip
          exact H
set_option maxRecDepth 20000 in
theorem rX0_serveStop_73 {l1 l2 l3 : Int32} {I : MI} {Q : MI → Prop} (H : (Wv mX0_serveHouse [.ref 56, .int l2, .int l3] I (fun I1 => (LX0_serveStop_79 l1 l2 l3 I1 Q)))) : LX0_serveStop_73 l1 l2 l3 I Q := by
  show WP mX0_serveStop 286 Rf0 73 [some (.ref 56), some (.int l1), some (.int l2), some (.int l3)] [] I (qv Q)
  refine w_aload_n dX0_serveStop_73 rfl rfl ?_
  refine w_iload_n dX0_serveStop_74 rfl rfl ?_
  refine w_iload_n dX0_serveStop_75 rfl rfl ?_
  refine w_callV (st := []) (As := [.int l2, .int l3]) dX0_serveStop_76 ml_0_120 okX0_serveHouse kd_56 (by decide) rfl rfl rfl (Nat.le_of_ble_eq_true rfl) (by decide) (Nat.le_of_ble_eq_true rfl) (wc_v H (fun I1 H => ?_))
  skip
  exact H
set_option maxRecDepth 20000 in
theorem rX0_serveStop_79 {l1 l2 l3 : Int32} {I : MI} {Q : MI → Prop} (H : (LX0_serveStop_2 l1 (l2 + 1) I Q)) : LX0_serveStop_79 l1 l2 l3 I Q := by
  show WP mX0_serveStop 286 Rf0 79 [some (.ref 56), some (.int l1), some (.int l2), some (.int l3)] [] I (qv Q)
  refine w_iinc (v := l2 + 1) (ls' := [some (.ref 56), some (.int l1), some (.int (l2 + 1)), some (.int l3)]) dX0_serveStop_79 rfl rfl (by decide) rfl rfl ?_
  refine w_goto (t := 2) dX0_serveStop_82 (by decide) ?_
  refine w_less (ls' := [some (.ref 56), some (.int l1), some (.int (l2 + 1)), none]) (by simp [lsub]) ?_
  exact H
set_option maxRecDepth 20000 in
theorem rX0_serveStop {a1 : Int32} {I : MI} {Q : MI → Prop} (H : (LX0_serveStop_2 a1 0 I Q)) : Wv mX0_serveStop [.ref 56, .int a1] I Q := by
  show WP mX0_serveStop 286 Rf0 0 [some (.ref 56), some (.int a1), none, none] [] I (qv Q)
  refine w_iconst (v := 0) dX0_serveStop_0 (by decide) ?_
  refine w_istore_n (ls' := [some (.ref 56), some (.int a1), some (.int 0), none]) dX0_serveStop_1 rfl (by decide) rfl rfl ?_
  skip
  exact H
theorem dX0_reload_0 : decode cX0_reload 0 = .ok (.aload_n 0, 1) := by decide +kernel
theorem dX0_reload_1 : decode cX0_reload 1 = .ok (.iconst 0, 1) := by decide +kernel
theorem dX0_reload_2 : decode cX0_reload 2 = .ok (.invokevirtual 86, 3) := by decide +kernel
theorem dX0_reload_5 : decode cX0_reload 5 = .ok (.ifCond .ne 5, 3) := by decide +kernel
theorem dX0_reload_8 : decode cX0_reload 8 = .ok (.iconst 0, 1) := by decide +kernel
theorem dX0_reload_9 : decode cX0_reload 9 = .ok (.ireturn, 1) := by decide +kernel
theorem dX0_reload_10 : decode cX0_reload 10 = .ok (.aload_n 0, 1) := by decide +kernel
theorem dX0_reload_11 : decode cX0_reload 11 = .ok (.iconst 0, 1) := by decide +kernel
theorem dX0_reload_12 : decode cX0_reload 12 = .ok (.putfield 70, 3) := by decide +kernel
theorem dX0_reload_15 : decode cX0_reload 15 = .ok (.aload_n 0, 1) := by decide +kernel
theorem dX0_reload_16 : decode cX0_reload 16 = .ok (.aload_n 0, 1) := by decide +kernel
theorem dX0_reload_17 : decode cX0_reload 17 = .ok (.getfield 55, 3) := by decide +kernel
theorem dX0_reload_20 : decode cX0_reload 20 = .ok (.aload_n 0, 1) := by decide +kernel
theorem dX0_reload_21 : decode cX0_reload 21 = .ok (.getfield 18, 3) := by decide +kernel
theorem dX0_reload_24 : decode cX0_reload 24 = .ok (.getfield 58, 3) := by decide +kernel
theorem dX0_reload_27 : decode cX0_reload 27 = .ok (.invokestatic 61, 3) := by decide +kernel
theorem dX0_reload_30 : decode cX0_reload 30 = .ok (.putfield 67, 3) := by decide +kernel
theorem dX0_reload_33 : decode cX0_reload 33 = .ok (.aload_n 0, 1) := by decide +kernel
theorem dX0_reload_34 : decode cX0_reload 34 = .ok (.dup, 1) := by decide +kernel
theorem dX0_reload_35 : decode cX0_reload 35 = .ok (.getfield 46, 3) := by decide +kernel
theorem dX0_reload_38 : decode cX0_reload 38 = .ok (.bipush 10, 2) := by decide +kernel
theorem dX0_reload_40 : decode cX0_reload 40 = .ok (.iadd, 1) := by decide +kernel
theorem dX0_reload_41 : decode cX0_reload 41 = .ok (.putfield 46, 3) := by decide +kernel
theorem dX0_reload_44 : decode cX0_reload 44 = .ok (.aload_n 0, 1) := by decide +kernel
theorem dX0_reload_45 : decode cX0_reload 45 = .ok (.getfield 12, 3) := by decide +kernel
theorem dX0_reload_48 : decode cX0_reload 48 = .ok (.dup, 1) := by decide +kernel
theorem dX0_reload_49 : decode cX0_reload 49 = .ok (.getfield 124, 3) := by decide +kernel
theorem dX0_reload_52 : decode cX0_reload 52 = .ok (.iconst 1, 1) := by decide +kernel
theorem dX0_reload_53 : decode cX0_reload 53 = .ok (.iadd, 1) := by decide +kernel
theorem dX0_reload_54 : decode cX0_reload 54 = .ok (.putfield 124, 3) := by decide +kernel
theorem dX0_reload_57 : decode cX0_reload 57 = .ok (.aload_n 0, 1) := by decide +kernel
theorem dX0_reload_58 : decode cX0_reload 58 = .ok (.iload_n 1, 1) := by decide +kernel
theorem dX0_reload_59 : decode cX0_reload 59 = .ok (.invokevirtual 86, 3) := by decide +kernel
theorem dX0_reload_62 : decode cX0_reload 62 = .ok (.ireturn, 1) := by decide +kernel
set_option maxRecDepth 20000 in
theorem rX0_reload {a1 : Int32} {I : MI} {Q : Int32 → MI → Prop} (H : (Wi mX0_driveTo [.ref 56, .int 0] I (fun r2 I1 => ((¬ r2 = 0 → (∀ I3 : MI, I3 = up2 I1 56 8 0 → ∀ x4 : Int32, x4 = (if (I3 24 3) < (I3 56 9) then (I3 24 3) else (I3 56 9)) → ∀ I5 : MI, I5 = up2 I3 56 7 x4 → ∀ I6 : MI, I6 = up2 I5 56 6 ((I5 56 6) + 10) → ∀ I7 : MI, I7 = up2 I6 57 2 ((I6 57 2) + 1) → Wi mX0_driveTo [.ref 56, .int a1] I7 (fun r9 I8 => (narrow .boolean (.int r9) = .int r9 ∧ Q r9 I8)))) ∧ (r2 = 0 → (Q 0 I1)))))) : Wi mX0_reload [.ref 56, .int a1] I Q := by
  show WP mX0_reload 286 Rf0 0 [some (.ref 56), some (.int a1)] [] I (qi Q)
  refine w_aload_n dX0_reload_0 rfl rfl ?_
  refine w_iconst (v := 0) dX0_reload_1 (by decide) ?_
  refine w_callV (st := []) (As := [.int 0]) dX0_reload_2 ml_0_86 okX0_driveTo kd_56 (by decide) rfl rfl rfl (Nat.le_of_ble_eq_true rfl) (by decide) (Nat.le_of_ble_eq_true rfl) (wc_i H (fun r2 I1 H => ?_))
  refine w_if_ne (t := 10) dX0_reload_5 (by decide) (fun h => ?_) (fun h => ?_)
  · replace H := H.1 h
    refine w_aload_n dX0_reload_10 rfl rfl ?_
    refine w_iconst (v := 0) dX0_reload_11 (by decide) ?_
    refine w_putI dX0_reload_12 fl_0_70 okC0 kd_56 (by decide) (by decide) rfl rfl rfl (w_up fun I3 hI => ?_)
    replace H := H I3 hI
    refine w_aload_n dX0_reload_15 rfl rfl ?_
    refine w_aload_n dX0_reload_16 rfl rfl ?_
    refine w_getI dX0_reload_17 fl_0_55 okC0 kd_56 (by decide) (by decide) rfl ?_
    refine w_aload_n dX0_reload_20 rfl rfl ?_
    refine w_getR dX0_reload_21 fl_0_18 okC0 kd_56 (by decide) (by decide) rfl rf_56_0 ?_
    refine w_getI dX0_reload_24 fl_0_58 okC6 kd_24 (by decide) (by decide) rfl ?_
    refine w_min dX0_reload_27 ml_0_61 minS maI minC (by decide) (Nat.le_of_ble_eq_true rfl) ?_
    refine w_top fun x4 hx => ?_
    replace H := H x4 hx
    refine w_putI dX0_reload_30 fl_0_67 okC0 kd_56 (by decide) (by decide) rfl rfl rfl (w_up fun I5 hI => ?_)
    replace H := H I5 hI
    refine w_aload_n dX0_reload_33 rfl rfl ?_
    refine w_dup dX0_reload_34 rfl ?_
    refine w_getI dX0_reload_35 fl_0_46 okC0 kd_56 (by decide) (by decide) rfl ?_
    refine w_bipush (v := 10) dX0_reload_38 (by decide) ?_
    refine w_iadd dX0_reload_40 ?_
    refine w_putI dX0_reload_41 fl_0_46 okC0 kd_56 (by decide) (by decide) rfl rfl rfl (w_up fun I6 hI => ?_)
    replace H := H I6 hI
    refine w_aload_n dX0_reload_44 rfl rfl ?_
    refine w_getR dX0_reload_45 fl_0_12 okC0 kd_56 (by decide) (by decide) rfl rf_56_4 ?_
    refine w_dup dX0_reload_48 rfl ?_
    refine w_getI dX0_reload_49 fl_0_124 okC3 kd_57 (by decide) (by decide) rfl ?_
    refine w_iconst (v := 1) dX0_reload_52 (by decide) ?_
    refine w_iadd dX0_reload_53 ?_
    refine w_putI dX0_reload_54 fl_0_124 okC3 kd_57 (by decide) (by decide) rfl rfl rfl (w_up fun I7 hI => ?_)
    replace H := H I7 hI
    refine w_aload_n dX0_reload_57 rfl rfl ?_
    refine w_iload_n dX0_reload_58 rfl rfl ?_
    refine w_callV (st := []) (As := [.int a1]) dX0_reload_59 ml_0_86 okX0_driveTo kd_56 (by decide) rfl rfl rfl (Nat.le_of_ble_eq_true rfl) (by decide) (Nat.le_of_ble_eq_true rfl) (wc_i H (fun r9 I8 H => ?_))
    exact w_zret dX0_reload_62 rfl H.1 ⟨_, rfl, H.2⟩
  · replace H := H.2 h
    refine w_iconst (v := 0) dX0_reload_8 (by decide) ?_
    exact w_zret dX0_reload_9 rfl rfl ⟨_, rfl, H⟩
theorem dX0_serveHouse_0 : decode cX0_serveHouse 0 = .ok (.aload_n 0, 1) := by decide +kernel
theorem dX0_serveHouse_1 : decode cX0_serveHouse 1 = .ok (.dup, 1) := by decide +kernel
theorem dX0_serveHouse_2 : decode cX0_serveHouse 2 = .ok (.getfield 46, 3) := by decide +kernel
theorem dX0_serveHouse_5 : decode cX0_serveHouse 5 = .ok (.aload_n 0, 1) := by decide +kernel
theorem dX0_serveHouse_6 : decode cX0_serveHouse 6 = .ok (.getfield 26, 3) := by decide +kernel
theorem dX0_serveHouse_9 : decode cX0_serveHouse 9 = .ok (.iload_n 1, 1) := by decide +kernel
theorem dX0_serveHouse_10 : decode cX0_serveHouse 10 = .ok (.invokevirtual 127, 3) := by decide +kernel
theorem dX0_serveHouse_13 : decode cX0_serveHouse 13 = .ok (.iadd, 1) := by decide +kernel
theorem dX0_serveHouse_14 : decode cX0_serveHouse 14 = .ok (.putfield 46, 3) := by decide +kernel
theorem dX0_serveHouse_17 : decode cX0_serveHouse 17 = .ok (.aload_n 0, 1) := by decide +kernel
theorem dX0_serveHouse_18 : decode cX0_serveHouse 18 = .ok (.dup, 1) := by decide +kernel
theorem dX0_serveHouse_19 : decode cX0_serveHouse 19 = .ok (.getfield 67, 3) := by decide +kernel
theorem dX0_serveHouse_22 : decode cX0_serveHouse 22 = .ok (.iload_n 2, 1) := by decide +kernel
theorem dX0_serveHouse_23 : decode cX0_serveHouse 23 = .ok (.isub, 1) := by decide +kernel
theorem dX0_serveHouse_24 : decode cX0_serveHouse 24 = .ok (.putfield 67, 3) := by decide +kernel
theorem dX0_serveHouse_27 : decode cX0_serveHouse 27 = .ok (.aload_n 0, 1) := by decide +kernel
theorem dX0_serveHouse_28 : decode cX0_serveHouse 28 = .ok (.dup, 1) := by decide +kernel
theorem dX0_serveHouse_29 : decode cX0_serveHouse 29 = .ok (.getfield 55, 3) := by decide +kernel
theorem dX0_serveHouse_32 : decode cX0_serveHouse 32 = .ok (.iload_n 2, 1) := by decide +kernel
theorem dX0_serveHouse_33 : decode cX0_serveHouse 33 = .ok (.isub, 1) := by decide +kernel
theorem dX0_serveHouse_34 : decode cX0_serveHouse 34 = .ok (.putfield 55, 3) := by decide +kernel
theorem dX0_serveHouse_37 : decode cX0_serveHouse 37 = .ok (.aload_n 0, 1) := by decide +kernel
theorem dX0_serveHouse_38 : decode cX0_serveHouse 38 = .ok (.getfield 22, 3) := by decide +kernel
theorem dX0_serveHouse_41 : decode cX0_serveHouse 41 = .ok (.getfield 130, 3) := by decide +kernel
theorem dX0_serveHouse_44 : decode cX0_serveHouse 44 = .ok (.iload_n 1, 1) := by decide +kernel
theorem dX0_serveHouse_45 : decode cX0_serveHouse 45 = .ok (.iaload, 1) := by decide +kernel
theorem dX0_serveHouse_46 : decode cX0_serveHouse 46 = .ok (.aload_n 0, 1) := by decide +kernel
theorem dX0_serveHouse_47 : decode cX0_serveHouse 47 = .ok (.getfield 22, 3) := by decide +kernel
theorem dX0_serveHouse_50 : decode cX0_serveHouse 50 = .ok (.getfield 135, 3) := by decide +kernel
theorem dX0_serveHouse_53 : decode cX0_serveHouse 53 = .ok (.iload_n 1, 1) := by decide +kernel
theorem dX0_serveHouse_54 : decode cX0_serveHouse 54 = .ok (.iaload, 1) := by decide +kernel
theorem dX0_serveHouse_55 : decode cX0_serveHouse 55 = .ok (.isub, 1) := by decide +kernel
theorem dX0_serveHouse_56 : decode cX0_serveHouse 56 = .ok (.iconst 0, 1) := by decide +kernel
theorem dX0_serveHouse_57 : decode cX0_serveHouse 57 = .ok (.invokestatic 138, 3) := by decide +kernel
theorem dX0_serveHouse_60 : decode cX0_serveHouse 60 = .ok (.istore_n 3, 1) := by decide +kernel
theorem dX0_serveHouse_61 : decode cX0_serveHouse 61 = .ok (.aload_n 0, 1) := by decide +kernel
theorem dX0_serveHouse_62 : decode cX0_serveHouse 62 = .ok (.getfield 18, 3) := by decide +kernel
theorem dX0_serveHouse_65 : decode cX0_serveHouse 65 = .ok (.getfield 58, 3) := by decide +kernel
theorem dX0_serveHouse_68 : decode cX0_serveHouse 68 = .ok (.aload_n 0, 1) := by decide +kernel
theorem dX0_serveHouse_69 : decode cX0_serveHouse 69 = .ok (.getfield 67, 3) := by decide +kernel
theorem dX0_serveHouse_72 : decode cX0_serveHouse 72 = .ok (.isub, 1) := by decide +kernel
theorem dX0_serveHouse_73 : decode cX0_serveHouse 73 = .ok (.aload_n 0, 1) := by decide +kernel
theorem dX0_serveHouse_74 : decode cX0_serveHouse 74 = .ok (.getfield 70, 3) := by decide +kernel
theorem dX0_serveHouse_77 : decode cX0_serveHouse 77 = .ok (.isub, 1) := by decide +kernel
theorem dX0_serveHouse_78 : decode cX0_serveHouse 78 = .ok (.istore 4, 2) := by decide +kernel
theorem dX0_serveHouse_80 : decode cX0_serveHouse 80 = .ok (.iload_n 3, 1) := by decide +kernel
theorem dX0_serveHouse_81 : decode cX0_serveHouse 81 = .ok (.iload 4, 2) := by decide +kernel
theorem dX0_serveHouse_83 : decode cX0_serveHouse 83 = .ok (.invokestatic 61, 3) := by decide +kernel
theorem dX0_serveHouse_86 : decode cX0_serveHouse 86 = .ok (.istore 5, 2) := by decide +kernel
theorem dX0_serveHouse_88 : decode cX0_serveHouse 88 = .ok (.aload_n 0, 1) := by decide +kernel
theorem dX0_serveHouse_89 : decode cX0_serveHouse 89 = .ok (.dup, 1) := by decide +kernel
theorem dX0_serveHouse_90 : decode cX0_serveHouse 90 = .ok (.getfield 70, 3) := by decide +kernel
theorem dX0_serveHouse_93 : decode cX0_serveHouse 93 = .ok (.iload 5, 2) := by decide +kernel
theorem dX0_serveHouse_95 : decode cX0_serveHouse 95 = .ok (.iadd, 1) := by decide +kernel
theorem dX0_serveHouse_96 : decode cX0_serveHouse 96 = .ok (.putfield 70, 3) := by decide +kernel
theorem dX0_serveHouse_99 : decode cX0_serveHouse 99 = .ok (.aload_n 0, 1) := by decide +kernel
theorem dX0_serveHouse_100 : decode cX0_serveHouse 100 = .ok (.getfield 12, 3) := by decide +kernel
theorem dX0_serveHouse_103 : decode cX0_serveHouse 103 = .ok (.iload_n 1, 1) := by decide +kernel
theorem dX0_serveHouse_104 : decode cX0_serveHouse 104 = .ok (.aload_n 0, 1) := by decide +kernel
theorem dX0_serveHouse_105 : decode cX0_serveHouse 105 = .ok (.getfield 46, 3) := by decide +kernel
theorem dX0_serveHouse_108 : decode cX0_serveHouse 108 = .ok (.iload 5, 2) := by decide +kernel
theorem dX0_serveHouse_110 : decode cX0_serveHouse 110 = .ok (.invokevirtual 141, 3) := by decide +kernel
theorem dX0_serveHouse_113 : decode cX0_serveHouse 113 = .ok (.return_, 1) := by decide +kernel
set_option maxRecDepth 20000 in
theorem rX0_serveHouse {a1 a2 : Int32} {I : MI} {Q : MI → Prop} (H : (Wi mX10_visitMinutes [.ref 44, .int a1] I (fun r2 I1 => (∀ I3 : MI, I3 = up2 I1 56 6 ((I 56 6) + r2) → ∀ I4 : MI, I4 = up2 I3 56 7 ((I3 56 7) - a2) → ∀ I5 : MI, I5 = up2 I4 56 9 ((I4 56 9) - a2) → vp_in a1 12 ∧ vp_in a1 12 ∧ ∀ x6 : Int32, x6 = (if ((I5 35 a1.toNatClampNeg) - (I5 32 a1.toNatClampNeg)) < 0 then 0 else ((I5 35 a1.toNatClampNeg) - (I5 32 a1.toNatClampNeg))) → ∀ x7 : Int32, x7 = (if (((I5 24 3) - (I5 56 7)) - (I5 56 8)) < x6 then (((I5 24 3) - (I5 56 7)) - (I5 56 8)) else x6) → ∀ I8 : MI, I8 = up2 I5 56 8 ((I5 56 8) + x7) → Wv mX3_add [.ref 57, .int a1, .int (I8 56 6), .int x7] I8 (fun I9 => (Q I9)))))) : Wv mX0_serveHouse [.ref 56, .int a1, .int a2] I Q := by
  show WP mX0_serveHouse 286 Rf0 0 [some (.ref 56), some (.int a1), some (.int a2), none, none, none] [] I (qv Q)
  refine w_aload_n dX0_serveHouse_0 rfl rfl ?_
  refine w_dup dX0_serveHouse_1 rfl ?_
  refine w_getI dX0_serveHouse_2 fl_0_46 okC0 kd_56 (by decide) (by decide) rfl ?_
  refine w_aload_n dX0_serveHouse_5 rfl rfl ?_
  refine w_getR dX0_serveHouse_6 fl_0_26 okC0 kd_56 (by decide) (by decide) rfl rf_56_2 ?_
  refine w_iload_n dX0_serveHouse_9 rfl rfl ?_
  refine w_callV (st := [.int (I 56 6), .ref 56]) (As := [.int a1]) dX0_serveHouse_10 ml_0_127 okX10_visitMinutes kd_44 (by decide) rfl rfl rfl (Nat.le_of_ble_eq_true rfl) (by decide) (Nat.le_of_ble_eq_true rfl) (wc_i H (fun r2 I1 H => ?_))
  refine w_iadd dX0_serveHouse_13 ?_
  refine w_putI dX0_serveHouse_14 fl_0_46 okC0 kd_56 (by decide) (by decide) rfl rfl rfl (w_up fun I3 hI => ?_)
  replace H := H I3 hI
  refine w_aload_n dX0_serveHouse_17 rfl rfl ?_
  refine w_dup dX0_serveHouse_18 rfl ?_
  refine w_getI dX0_serveHouse_19 fl_0_67 okC0 kd_56 (by decide) (by decide) rfl ?_
  refine w_iload_n dX0_serveHouse_22 rfl rfl ?_
  refine w_isub dX0_serveHouse_23 ?_
  refine w_putI dX0_serveHouse_24 fl_0_67 okC0 kd_56 (by decide) (by decide) rfl rfl rfl (w_up fun I4 hI => ?_)
  replace H := H I4 hI
  refine w_aload_n dX0_serveHouse_27 rfl rfl ?_
  refine w_dup dX0_serveHouse_28 rfl ?_
  refine w_getI dX0_serveHouse_29 fl_0_55 okC0 kd_56 (by decide) (by decide) rfl ?_
  refine w_iload_n dX0_serveHouse_32 rfl rfl ?_
  refine w_isub dX0_serveHouse_33 ?_
  refine w_putI dX0_serveHouse_34 fl_0_55 okC0 kd_56 (by decide) (by decide) rfl rfl rfl (w_up fun I5 hI => ?_)
  replace H := H I5 hI
  refine w_aload_n dX0_serveHouse_37 rfl rfl ?_
  refine w_getR dX0_serveHouse_38 fl_0_22 okC0 kd_56 (by decide) (by decide) rfl rf_56_1 ?_
  refine w_getR dX0_serveHouse_41 fl_0_130 okC8 kd_30 (by decide) (by decide) rfl rf_30_6 ?_
  refine w_iload_n dX0_serveHouse_44 rfl rfl ?_
  refine w_iald dX0_serveHouse_45 kd_35 (by decide) H.1 ?_
  replace H := H.2
  refine w_aload_n dX0_serveHouse_46 rfl rfl ?_
  refine w_getR dX0_serveHouse_47 fl_0_22 okC0 kd_56 (by decide) (by decide) rfl rf_56_1 ?_
  refine w_getR dX0_serveHouse_50 fl_0_135 okC8 kd_30 (by decide) (by decide) rfl rf_30_3 ?_
  refine w_iload_n dX0_serveHouse_53 rfl rfl ?_
  refine w_iald dX0_serveHouse_54 kd_32 (by decide) H.1 ?_
  replace H := H.2
  refine w_isub dX0_serveHouse_55 ?_
  refine w_iconst (v := 0) dX0_serveHouse_56 (by decide) ?_
  refine w_max dX0_serveHouse_57 ml_0_138 maxS maI maxC (by decide) (Nat.le_of_ble_eq_true rfl) ?_
  refine w_top fun x6 hx => ?_
  replace H := H x6 hx
  refine w_istore_n (ls' := [some (.ref 56), some (.int a1), some (.int a2), some (.int x6), none, none]) dX0_serveHouse_60 rfl (by decide) rfl rfl ?_
  refine w_aload_n dX0_serveHouse_61 rfl rfl ?_
  refine w_getR dX0_serveHouse_62 fl_0_18 okC0 kd_56 (by decide) (by decide) rfl rf_56_0 ?_
  refine w_getI dX0_serveHouse_65 fl_0_58 okC6 kd_24 (by decide) (by decide) rfl ?_
  refine w_aload_n dX0_serveHouse_68 rfl rfl ?_
  refine w_getI dX0_serveHouse_69 fl_0_67 okC0 kd_56 (by decide) (by decide) rfl ?_
  refine w_isub dX0_serveHouse_72 ?_
  refine w_aload_n dX0_serveHouse_73 rfl rfl ?_
  refine w_getI dX0_serveHouse_74 fl_0_70 okC0 kd_56 (by decide) (by decide) rfl ?_
  refine w_isub dX0_serveHouse_77 ?_
  refine w_istore (ls' := [some (.ref 56), some (.int a1), some (.int a2), some (.int x6), some (.int (((I5 24 3) - (I5 56 7)) - (I5 56 8))), none]) dX0_serveHouse_78 (by decide) rfl rfl ?_
  refine w_iload_n dX0_serveHouse_80 rfl rfl ?_
  refine w_iload dX0_serveHouse_81 rfl ?_
  refine w_min dX0_serveHouse_83 ml_0_61 minS maI minC (by decide) (Nat.le_of_ble_eq_true rfl) ?_
  refine w_top fun x7 hx => ?_
  replace H := H x7 hx
  refine w_istore (ls' := [some (.ref 56), some (.int a1), some (.int a2), some (.int x6), some (.int (((I5 24 3) - (I5 56 7)) - (I5 56 8))), some (.int x7)]) dX0_serveHouse_86 (by decide) rfl rfl ?_
  refine w_aload_n dX0_serveHouse_88 rfl rfl ?_
  refine w_dup dX0_serveHouse_89 rfl ?_
  refine w_getI dX0_serveHouse_90 fl_0_70 okC0 kd_56 (by decide) (by decide) rfl ?_
  refine w_iload dX0_serveHouse_93 rfl ?_
  refine w_iadd dX0_serveHouse_95 ?_
  refine w_putI dX0_serveHouse_96 fl_0_70 okC0 kd_56 (by decide) (by decide) rfl rfl rfl (w_up fun I8 hI => ?_)
  replace H := H I8 hI
  refine w_aload_n dX0_serveHouse_99 rfl rfl ?_
  refine w_getR dX0_serveHouse_100 fl_0_12 okC0 kd_56 (by decide) (by decide) rfl rf_56_4 ?_
  refine w_iload_n dX0_serveHouse_103 rfl rfl ?_
  refine w_aload_n dX0_serveHouse_104 rfl rfl ?_
  refine w_getI dX0_serveHouse_105 fl_0_46 okC0 kd_56 (by decide) (by decide) rfl ?_
  refine w_iload dX0_serveHouse_108 rfl ?_
  refine w_callV (st := []) (As := [.int a1, .int (I8 56 6), .int x7]) dX0_serveHouse_110 ml_0_141 okX3_add kd_57 (by decide) rfl rfl rfl (Nat.le_of_ble_eq_true rfl) (by decide) (Nat.le_of_ble_eq_true rfl) (wc_v H (fun I9 H => ?_))
  exact w_vret dX0_serveHouse_113 rfl ⟨rfl, H⟩
theorem dX1_forget_0 : decode cX1_forget 0 = .ok (.aload_n 0, 1) := by decide +kernel
theorem dX1_forget_1 : decode cX1_forget 1 = .ok (.iconst 0, 1) := by decide +kernel
theorem dX1_forget_2 : decode cX1_forget 2 = .ok (.putfield 45, 3) := by decide +kernel
theorem dX1_forget_5 : decode cX1_forget 5 = .ok (.return_, 1) := by decide +kernel
set_option maxRecDepth 20000 in
theorem rX1_forget {I : MI} {Q : MI → Prop} (H : (∀ I1 : MI, I1 = up2 I 50 9 0 → Q I1)) : Wv mX1_forget [.ref 50] I Q := by
  show WP mX1_forget 286 Rf0 0 [some (.ref 50)] [] I (qv Q)
  refine w_aload_n dX1_forget_0 rfl rfl ?_
  refine w_iconst (v := 0) dX1_forget_1 (by decide) ?_
  refine w_putZ dX1_forget_2 fl_1_45 okC1 kd_50 (by decide) (by decide) rfl rfl rfl (by decide) (w_up fun I1 hI => ?_)
  replace H := H I1 hI
  exact w_vret dX1_forget_5 rfl ⟨rfl, H⟩
theorem dX1_find_0 : decode cX1_find 0 = .ok (.aload_n 0, 1) := by decide +kernel
theorem dX1_find_1 : decode cX1_find 1 = .ok (.getfield 45, 3) := by decide +kernel
theorem dX1_find_4 : decode cX1_find 4 = .ok (.ifCond .eq 4, 3) := by decide +kernel
theorem dX1_find_7 : decode cX1_find 7 = .ok (.return_, 1) := by decide +kernel
theorem dX1_find_8 : decode cX1_find 8 = .ok (.aload_n 0, 1) := by decide +kernel
theorem dX1_find_9 : decode cX1_find 9 = .ok (.iconst 1, 1) := by decide +kernel
theorem dX1_find_10 : decode cX1_find 10 = .ok (.putfield 45, 3) := by decide +kernel
theorem dX1_find_13 : decode cX1_find 13 = .ok (.aload_n 0, 1) := by decide +kernel
theorem dX1_find_14 : decode cX1_find 14 = .ok (.ldc 28, 2) := by decide +kernel
theorem dX1_find_16 : decode cX1_find 16 = .ok (.putfield 29, 3) := by decide +kernel
theorem dX1_find_19 : decode cX1_find 19 = .ok (.aload_n 0, 1) := by decide +kernel
theorem dX1_find_20 : decode cX1_find 20 = .ok (.getfield 12, 3) := by decide +kernel
theorem dX1_find_23 : decode cX1_find 23 = .ok (.invokevirtual 49, 3) := by decide +kernel
theorem dX1_find_26 : decode cX1_find 26 = .ok (.aload_n 0, 1) := by decide +kernel
theorem dX1_find_27 : decode cX1_find 27 = .ok (.getfield 37, 3) := by decide +kernel
theorem dX1_find_30 : decode cX1_find 30 = .ok (.invokevirtual 52, 3) := by decide +kernel
theorem dX1_find_33 : decode cX1_find 33 = .ok (.aload_n 0, 1) := by decide +kernel
theorem dX1_find_34 : decode cX1_find 34 = .ok (.getfield 33, 3) := by decide +kernel
theorem dX1_find_37 : decode cX1_find 37 = .ok (.getfield 58, 3) := by decide +kernel
theorem dX1_find_40 : decode cX1_find 40 = .ok (.if_icmp .le 4, 3) := by decide +kernel
theorem dX1_find_43 : decode cX1_find 43 = .ok (.return_, 1) := by decide +kernel
theorem dX1_find_44 : decode cX1_find 44 = .ok (.aload_n 0, 1) := by decide +kernel
theorem dX1_find_45 : decode cX1_find 45 = .ok (.aload_n 0, 1) := by decide +kernel
theorem dX1_find_46 : decode cX1_find 46 = .ok (.getfield 37, 3) := by decide +kernel
theorem dX1_find_49 : decode cX1_find 49 = .ok (.invokevirtual 63, 3) := by decide +kernel
theorem dX1_find_52 : decode cX1_find 52 = .ok (.putfield 66, 3) := by decide +kernel
theorem dX1_find_55 : decode cX1_find 55 = .ok (.aload_n 0, 1) := by decide +kernel
theorem dX1_find_56 : decode cX1_find 56 = .ok (.invokevirtual 69, 3) := by decide +kernel
theorem dX1_find_59 : decode cX1_find 59 = .ok (.aload_n 0, 1) := by decide +kernel
theorem dX1_find_60 : decode cX1_find 60 = .ok (.invokevirtual 72, 3) := by decide +kernel
theorem dX1_find_63 : decode cX1_find 63 = .ok (.aload_n 0, 1) := by decide +kernel
theorem dX1_find_64 : decode cX1_find 64 = .ok (.getfield 29, 3) := by decide +kernel
theorem dX1_find_67 : decode cX1_find 67 = .ok (.ldc 28, 2) := by decide +kernel
theorem dX1_find_69 : decode cX1_find 69 = .ok (.if_icmp .eq 11, 3) := by decide +kernel
theorem dX1_find_72 : decode cX1_find 72 = .ok (.aload_n 0, 1) := by decide +kernel
theorem dX1_find_73 : decode cX1_find 73 = .ok (.invokevirtual 75, 3) := by decide +kernel
theorem dX1_find_76 : decode cX1_find 76 = .ok (.aload_n 0, 1) := by decide +kernel
theorem dX1_find_77 : decode cX1_find 77 = .ok (.invokevirtual 78, 3) := by decide +kernel
theorem dX1_find_80 : decode cX1_find 80 = .ok (.return_, 1) := by decide +kernel
set_option maxRecDepth 20000 in
theorem rX1_find {I : MI} {Q : MI → Prop} (H : (((I 50 9) = 0 → (∀ I1 : MI, I1 = up2 I 50 9 1 → ∀ I2 : MI, I2 = up2 I1 50 8 2147483647 → Wv mX7_clear [.ref 51] I2 (fun I3 => (Wi mX10_sumOfDemands [.ref 44] I3 (fun r5 I4 => ((r5 ≤ (I4 24 3) → (Wi mX10_stopSet [.ref 44] I4 (fun r7 I6 => (∀ I8 : MI, I8 = up2 I6 50 7 r7 → Wv mX1_sumVisits [.ref 50] I8 (fun I9 => (Wv mX1_findEarliest [.ref 50] I9 (fun I10 => (((I10 50 8) = 2147483647 → (Q I10)) ∧ (¬ (I10 50 8) = 2147483647 → (Wv mX1_findLatest [.ref 50] I10 (fun I11 => (Wv mX1_walk [.ref 50] I11 (fun I12 => (Q I12)))))))))))))) ∧ (¬ r5 ≤ (I4 24 3) → (Q I4)))))))) ∧ (¬ (I 50 9) = 0 → (Q I)))) : Wv mX1_find [.ref 50] I Q := by
  show WP mX1_find 286 Rf0 0 [some (.ref 50)] [] I (qv Q)
  refine w_aload_n dX1_find_0 rfl rfl ?_
  refine w_getI dX1_find_1 fl_1_45 okC1 kd_50 (by decide) (by decide) rfl ?_
  refine w_if_eq (t := 8) dX1_find_4 (by decide) (fun h => ?_) (fun h => ?_)
  · replace H := H.1 h
    refine w_aload_n dX1_find_8 rfl rfl ?_
    refine w_iconst (v := 1) dX1_find_9 (by decide) ?_
    refine w_putZ dX1_find_10 fl_1_45 okC1 kd_50 (by decide) (by decide) rfl rfl rfl (by decide) (w_up fun I1 hI => ?_)
    replace H := H I1 hI
    refine w_aload_n dX1_find_13 rfl rfl ?_
    refine w_ldc (v := 2147483647) dX1_find_14 kl_1_28 ?_
    refine w_putI dX1_find_16 fl_1_29 okC1 kd_50 (by decide) (by decide) rfl rfl rfl (w_up fun I2 hI => ?_)
    replace H := H I2 hI
    refine w_aload_n dX1_find_19 rfl rfl ?_
    refine w_getR dX1_find_20 fl_1_12 okC1 kd_50 (by decide) (by decide) rfl rf_50_3 ?_
    refine w_callV (st := []) (As := []) dX1_find_23 ml_1_49 okX7_clear kd_51 (by decide) rfl rfl rfl (Nat.le_of_ble_eq_true rfl) (by decide) (Nat.le_of_ble_eq_true rfl) (wc_v H (fun I3 H => ?_))
    refine w_aload_n dX1_find_26 rfl rfl ?_
    refine w_getR dX1_find_27 fl_1_37 okC1 kd_50 (by decide) (by decide) rfl rf_50_1 ?_
    refine w_callV (st := []) (As := []) dX1_find_30 ml_1_52 okX10_sumOfDemands kd_44 (by decide) rfl rfl rfl (Nat.le_of_ble_eq_true rfl) (by decide) (Nat.le_of_ble_eq_true rfl) (wc_i H (fun r5 I4 H => ?_))
    refine w_aload_n dX1_find_33 rfl rfl ?_
    refine w_getR dX1_find_34 fl_1_33 okC1 kd_50 (by decide) (by decide) rfl rf_50_0 ?_
    refine w_getI dX1_find_37 fl_1_58 okC6 kd_24 (by decide) (by decide) rfl ?_
    refine w_icmp_le (t := 44) dX1_find_40 (by decide) (fun h => ?_) (fun h => ?_)
    · replace H := H.1 h
      refine w_aload_n dX1_find_44 rfl rfl ?_
      refine w_aload_n dX1_find_45 rfl rfl ?_
      refine w_getR dX1_find_46 fl_1_37 okC1 kd_50 (by decide) (by decide) rfl rf_50_1 ?_
      refine w_callV (st := [.ref 50]) (As := []) dX1_find_49 ml_1_63 okX10_stopSet kd_44 (by decide) rfl rfl rfl (Nat.le_of_ble_eq_true rfl) (by decide) (Nat.le_of_ble_eq_true rfl) (wc_i H (fun r7 I6 H => ?_))
      refine w_putI dX1_find_52 fl_1_66 okC1 kd_50 (by decide) (by decide) rfl rfl rfl (w_up fun I8 hI => ?_)
      replace H := H I8 hI
      refine w_aload_n dX1_find_55 rfl rfl ?_
      refine w_callV (st := []) (As := []) dX1_find_56 ml_1_69 okX1_sumVisits kd_50 (by decide) rfl rfl rfl (Nat.le_of_ble_eq_true rfl) (by decide) (Nat.le_of_ble_eq_true rfl) (wc_v H (fun I9 H => ?_))
      refine w_aload_n dX1_find_59 rfl rfl ?_
      refine w_callV (st := []) (As := []) dX1_find_60 ml_1_72 okX1_findEarliest kd_50 (by decide) rfl rfl rfl (Nat.le_of_ble_eq_true rfl) (by decide) (Nat.le_of_ble_eq_true rfl) (wc_v H (fun I10 H => ?_))
      refine w_aload_n dX1_find_63 rfl rfl ?_
      refine w_getI dX1_find_64 fl_1_29 okC1 kd_50 (by decide) (by decide) rfl ?_
      refine w_ldc (v := 2147483647) dX1_find_67 kl_1_28 ?_
      refine w_icmp_eq (t := 80) dX1_find_69 (by decide) (fun h => ?_) (fun h => ?_)
      · replace H := H.1 h
        exact w_vret dX1_find_80 rfl ⟨rfl, H⟩
      · replace H := H.2 h
        refine w_aload_n dX1_find_72 rfl rfl ?_
        refine w_callV (st := []) (As := []) dX1_find_73 ml_1_75 okX1_findLatest kd_50 (by decide) rfl rfl rfl (Nat.le_of_ble_eq_true rfl) (by decide) (Nat.le_of_ble_eq_true rfl) (wc_v H (fun I11 H => ?_))
        refine w_aload_n dX1_find_76 rfl rfl ?_
        refine w_callV (st := []) (As := []) dX1_find_77 ml_1_78 okX1_walk kd_50 (by decide) rfl rfl rfl (Nat.le_of_ble_eq_true rfl) (by decide) (Nat.le_of_ble_eq_true rfl) (wc_v H (fun I12 H => ?_))
        exact w_vret dX1_find_80 rfl ⟨rfl, H⟩
    · replace H := H.2 h
      exact w_vret dX1_find_43 rfl ⟨rfl, H⟩
  · replace H := H.2 h
    exact w_vret dX1_find_7 rfl ⟨rfl, H⟩
theorem dX1_sumVisits_0 : decode cX1_sumVisits 0 = .ok (.aload_n 0, 1) := by decide +kernel
theorem dX1_sumVisits_1 : decode cX1_sumVisits 1 = .ok (.getfield 18, 3) := by decide +kernel
theorem dX1_sumVisits_4 : decode cX1_sumVisits 4 = .ok (.iconst 0, 1) := by decide +kernel
theorem dX1_sumVisits_5 : decode cX1_sumVisits 5 = .ok (.invokestatic 81, 3) := by decide +kernel
theorem dX1_sumVisits_8 : decode cX1_sumVisits 8 = .ok (.iconst 0, 1) := by decide +kernel
theorem dX1_sumVisits_9 : decode cX1_sumVisits 9 = .ok (.istore_n 1, 1) := by decide +kernel
theorem dX1_sumVisits_10 : decode cX1_sumVisits 10 = .ok (.iload_n 1, 1) := by decide +kernel
theorem dX1_sumVisits_11 : decode cX1_sumVisits 11 = .ok (.aload_n 0, 1) := by decide +kernel
theorem dX1_sumVisits_12 : decode cX1_sumVisits 12 = .ok (.getfield 33, 3) := by decide +kernel
theorem dX1_sumVisits_15 : decode cX1_sumVisits 15 = .ok (.getfield 87, 3) := by decide +kernel
theorem dX1_sumVisits_18 : decode cX1_sumVisits 18 = .ok (.if_icmp .ge 45, 3) := by decide +kernel
theorem dX1_sumVisits_21 : decode cX1_sumVisits 21 = .ok (.aload_n 0, 1) := by decide +kernel
theorem dX1_sumVisits_22 : decode cX1_sumVisits 22 = .ok (.getfield 37, 3) := by decide +kernel
theorem dX1_sumVisits_25 : decode cX1_sumVisits 25 = .ok (.iload_n 1, 1) := by decide +kernel
theorem dX1_sumVisits_26 : decode cX1_sumVisits 26 = .ok (.invokevirtual 90, 3) := by decide +kernel
theorem dX1_sumVisits_29 : decode cX1_sumVisits 29 = .ok (.ifCond .le 28, 3) := by decide +kernel
theorem dX1_sumVisits_32 : decode cX1_sumVisits 32 = .ok (.aload_n 0, 1) := by decide +kernel
theorem dX1_sumVisits_33 : decode cX1_sumVisits 33 = .ok (.getfield 18, 3) := by decide +kernel
theorem dX1_sumVisits_36 : decode cX1_sumVisits 36 = .ok (.aload_n 0, 1) := by decide +kernel
theorem dX1_sumVisits_37 : decode cX1_sumVisits 37 = .ok (.getfield 33, 3) := by decide +kernel
theorem dX1_sumVisits_40 : decode cX1_sumVisits 40 = .ok (.getfield 94, 3) := by decide +kernel
theorem dX1_sumVisits_43 : decode cX1_sumVisits 43 = .ok (.iload_n 1, 1) := by decide +kernel
theorem dX1_sumVisits_44 : decode cX1_sumVisits 44 = .ok (.iaload, 1) := by decide +kernel
theorem dX1_sumVisits_45 : decode cX1_sumVisits 45 = .ok (.dup2, 1) := by decide +kernel
theorem dX1_sumVisits_46 : decode cX1_sumVisits 46 = .ok (.iaload, 1) := by decide +kernel
theorem dX1_sumVisits_47 : decode cX1_sumVisits 47 = .ok (.aload_n 0, 1) := by decide +kernel
theorem dX1_sumVisits_48 : decode cX1_sumVisits 48 = .ok (.getfield 37, 3) := by decide +kernel
theorem dX1_sumVisits_51 : decode cX1_sumVisits 51 = .ok (.iload_n 1, 1) := by decide +kernel
theorem dX1_sumVisits_52 : decode cX1_sumVisits 52 = .ok (.invokevirtual 97, 3) := by decide +kernel
theorem dX1_sumVisits_55 : decode cX1_sumVisits 55 = .ok (.iadd, 1) := by decide +kernel
theorem dX1_sumVisits_56 : decode cX1_sumVisits 56 = .ok (.iastore, 1) := by decide +kernel
theorem dX1_sumVisits_57 : decode cX1_sumVisits 57 = .ok (.iinc 1 1, 3) := by decide +kernel
theorem dX1_sumVisits_60 : decode cX1_sumVisits 60 = .ok (.goto (-50), 3) := by decide +kernel
theorem dX1_sumVisits_63 : decode cX1_sumVisits 63 = .ok (.return_, 1) := by decide +kernel
abbrev LX1_sumVisits_10 (l1 : Int32) (I : MI) (Q : MI → Prop) : Prop := WP mX1_sumVisits 286 Rf0 10 [some (.ref 50), some (.int l1)] [] I (qv Q)
abbrev LX1_sumVisits_57 (l1 : Int32) (I : MI) (Q : MI → Prop) : Prop := WP mX1_sumVisits 286 Rf0 57 [some (.ref 50), some (.int l1)] [] I (qv Q)
set_option maxRecDepth 20000 in
theorem rX1_sumVisits_10 {l1 : Int32} {I : MI} {Q : MI → Prop} (H : (((I 24 2) ≤ l1 → (Q I)) ∧ (¬ (I 24 2) ≤ l1 → (Wi mX10_demandOf [.ref 44, .int l1] I (fun r2 I1 => ((r2 ≤ 0 → (LX1_sumVisits_57 l1 I1 Q)) ∧ (¬ r2 ≤ 0 → (vp_in l1 12 ∧ vp_in (I1 28 l1.toNatClampNeg) 10 ∧ Wi mX10_visitMinutes [.ref 44, .int l1] I1 (fun r4 I3 => (vp_in (I1 28 l1.toNatClampNeg) 10 ∧ ∀ I5 : MI, I5 = up2 I3 53 (I1 28 l1.toNatClampNeg).toNatClampNeg ((I1 53 (I1 28 l1.toNatClampNeg).toNatClampNeg) + r4) → LX1_sumVisits_57 l1 I5 Q)))))))))) : LX1_sumVisits_10 l1 I Q := by
  show WP mX1_sumVisits 286 Rf0 10 [some (.ref 50), some (.int l1)] [] I (qv Q)
  refine w_iload_n dX1_sumVisits_10 rfl rfl ?_
  refine w_aload_n dX1_sumVisits_11 rfl rfl ?_
  refine w_getR dX1_sumVisits_12 fl_1_33 okC1 kd_50 (by decide) (by decide) rfl rf_50_0 ?_
  refine w_getI dX1_sumVisits_15 fl_1_87 okC6 kd_24 (by decide) (by decide) rfl ?_
  refine w_icmp_ge (t := 63) dX1_sumVisits_18 (by decide) (fun h => ?_) (fun h => ?_)
  · replace H := H.1 h
    exact w_vret dX1_sumVisits_63 rfl ⟨rfl, H⟩
  · replace H := H.2 h
    refine w_aload_n dX1_sumVisits_21 rfl rfl ?_
    refine w_getR dX1_sumVisits_22 fl_1_37 okC1 kd_50 (by decide) (by decide) rfl rf_50_1 ?_
    refine w_iload_n dX1_sumVisits_25 rfl rfl ?_
    refine w_callV (st := []) (As := [.int l1]) dX1_sumVisits_26 ml_1_90 okX10_demandOf kd_44 (by decide) rfl rfl rfl (Nat.le_of_ble_eq_true rfl) (by decide) (Nat.le_of_ble_eq_true rfl) (wc_i H (fun r2 I1 H => ?_))
    refine w_if_le (t := 57) dX1_sumVisits_29 (by decide) (fun h => ?_) (fun h => ?_)
    · replace H := H.1 h
      skip
      exact H
    · replace H := H.2 h
      refine w_aload_n dX1_sumVisits_32 rfl rfl ?_
      refine w_getR dX1_sumVisits_33 fl_1_18 okC1 kd_50 (by decide) (by decide) rfl rf_50_4 ?_
      refine w_aload_n dX1_sumVisits_36 rfl rfl ?_
      refine w_getR dX1_sumVisits_37 fl_1_33 okC1 kd_50 (by decide) (by decide) rfl rf_50_0 ?_
      refine w_getR dX1_sumVisits_40 fl_1_94 okC6 kd_24 (by decide) (by decide) rfl rf_24_10 ?_
      refine w_iload_n dX1_sumVisits_43 rfl rfl ?_
      refine w_iald dX1_sumVisits_44 kd_28 (by decide) H.1 ?_
      replace H := H.2
      refine w_dup2 dX1_sumVisits_45 rfl rfl ?_
      refine w_iald dX1_sumVisits_46 kd_53 (by decide) H.1 ?_
      replace H := H.2
      refine w_aload_n dX1_sumVisits_47 rfl rfl ?_
      refine w_getR dX1_sumVisits_48 fl_1_37 okC1 kd_50 (by decide) (by decide) rfl rf_50_1 ?_
      refine w_iload_n dX1_sumVisits_51 rfl rfl ?_
      refine w_callV (st := [.int (I1 53 (I1 28 l1.toNatClampNeg).toNatClampNeg), .int (I1 28 l1.toNatClampNeg), .ref 53]) (As := [.int l1]) dX1_sumVisits_52 ml_1_97 okX10_visitMinutes kd_44 (by decide) rfl rfl rfl (Nat.le_of_ble_eq_true rfl) (by decide) (Nat.le_of_ble_eq_true rfl) (wc_i H (fun r4 I3 H => ?_))
      refine w_iadd dX1_sumVisits_55 ?_
      refine w_iast dX1_sumVisits_56 kd_53 (by decide) H.1 (w_up fun I5 hI => ?_)
      replace H := H.2 I5 hI
      skip
      exact H
set_option maxRecDepth 20000 in
theorem rX1_sumVisits_57 {l1 : Int32} {I : MI} {Q : MI → Prop} (H : (LX1_sumVisits_10 (l1 + 1) I Q)) : LX1_sumVisits_57 l1 I Q := by
  show WP mX1_sumVisits 286 Rf0 57 [some (.ref 50), some (.int l1)] [] I (qv Q)
  refine w_iinc (v := l1 + 1) (ls' := [some (.ref 50), some (.int (l1 + 1))]) dX1_sumVisits_57 rfl rfl (by decide) rfl rfl ?_
  refine w_goto (t := 10) dX1_sumVisits_60 (by decide) ?_
  skip
  exact H
set_option maxRecDepth 20000 in
theorem rX1_sumVisits {I : MI} {Q : MI → Prop} (H : (Wv mJ7_fill_53178 [.ref 53, .int 0] I (fun I1 => (LX1_sumVisits_10 0 I1 Q)))) : Wv mX1_sumVisits [.ref 50] I Q := by
  show WP mX1_sumVisits 286 Rf0 0 [some (.ref 50), none] [] I (qv Q)
  refine w_aload_n dX1_sumVisits_0 rfl rfl ?_
  refine w_getR dX1_sumVisits_1 fl_1_18 okC1 kd_50 (by decide) (by decide) rfl rf_50_4 ?_
  refine w_iconst (v := 0) dX1_sumVisits_4 (by decide) ?_
  refine w_callS (st := []) (As := [.ref 53, .int 0]) dX1_sumVisits_5 ml_1_81 okJ7_fill_53178 rfl (Nat.le_of_ble_eq_true rfl) (by decide) (Nat.le_of_ble_eq_true rfl) (wc_v H (fun I1 H => ?_))
  refine w_iconst (v := 0) dX1_sumVisits_8 (by decide) ?_
  refine w_istore_n (ls' := [some (.ref 50), some (.int 0)]) dX1_sumVisits_9 rfl (by decide) rfl rfl ?_
  skip
  exact H
theorem dX1_place_0 : decode cX1_place 0 = .ok (.iload_n 0, 1) := by decide +kernel
theorem dX1_place_1 : decode cX1_place 1 = .ok (.iconst 1, 1) := by decide +kernel
theorem dX1_place_2 : decode cX1_place 2 = .ok (.ishr, 1) := by decide +kernel
theorem dX1_place_3 : decode cX1_place 3 = .ok (.bipush 10, 2) := by decide +kernel
theorem dX1_place_5 : decode cX1_place 5 = .ok (.imul, 1) := by decide +kernel
theorem dX1_place_6 : decode cX1_place 6 = .ok (.iload_n 1, 1) := by decide +kernel
theorem dX1_place_7 : decode cX1_place 7 = .ok (.iadd, 1) := by decide +kernel
theorem dX1_place_8 : decode cX1_place 8 = .ok (.ireturn, 1) := by decide +kernel
set_option maxRecDepth 20000 in
theorem rX1_place {a1 a2 : Int32} {I : MI} {Q : Int32 → MI → Prop} (H : (Q (((a1 >>> ((1 : Int32) &&& 31)) * 10) + a2) I)) : Wi mX1_place [.int a1, .int a2] I Q := by
  show WP mX1_place 286 Rf0 0 [some (.int a1), some (.int a2)] [] I (qi Q)
  refine w_iload_n dX1_place_0 rfl rfl ?_
  refine w_iconst (v := 1) dX1_place_1 (by decide) ?_
  refine w_ishr dX1_place_2 ?_
  refine w_bipush (v := 10) dX1_place_3 (by decide) ?_
  refine w_imul dX1_place_5 ?_
  refine w_iload_n dX1_place_6 rfl rfl ?_
  refine w_iadd dX1_place_7 ?_
  exact w_iret dX1_place_8 rfl ⟨_, rfl, H⟩
theorem dX1_isLast_0 : decode cX1_isLast 0 = .ok (.iload_n 0, 1) := by decide +kernel
theorem dX1_isLast_1 : decode cX1_isLast 1 = .ok (.ifCond .ne 15, 3) := by decide +kernel
theorem dX1_isLast_4 : decode cX1_isLast 4 = .ok (.iload_n 1, 1) := by decide +kernel
theorem dX1_isLast_5 : decode cX1_isLast 5 = .ok (.ifCond .ne 7, 3) := by decide +kernel
theorem dX1_isLast_8 : decode cX1_isLast 8 = .ok (.iconst 1, 1) := by decide +kernel
theorem dX1_isLast_9 : decode cX1_isLast 9 = .ok (.goto 20, 3) := by decide +kernel
theorem dX1_isLast_12 : decode cX1_isLast 12 = .ok (.iconst 0, 1) := by decide +kernel
theorem dX1_isLast_13 : decode cX1_isLast 13 = .ok (.goto 16, 3) := by decide +kernel
theorem dX1_isLast_16 : decode cX1_isLast 16 = .ok (.iload_n 0, 1) := by decide +kernel
theorem dX1_isLast_17 : decode cX1_isLast 17 = .ok (.iconst 1, 1) := by decide +kernel
theorem dX1_isLast_18 : decode cX1_isLast 18 = .ok (.iload_n 1, 1) := by decide +kernel
theorem dX1_isLast_19 : decode cX1_isLast 19 = .ok (.ishl, 1) := by decide +kernel
theorem dX1_isLast_20 : decode cX1_isLast 20 = .ok (.iand, 1) := by decide +kernel
theorem dX1_isLast_21 : decode cX1_isLast 21 = .ok (.ifCond .eq 7, 3) := by decide +kernel
theorem dX1_isLast_24 : decode cX1_isLast 24 = .ok (.iconst 1, 1) := by decide +kernel
theorem dX1_isLast_25 : decode cX1_isLast 25 = .ok (.goto 4, 3) := by decide +kernel
theorem dX1_isLast_28 : decode cX1_isLast 28 = .ok (.iconst 0, 1) := by decide +kernel
theorem dX1_isLast_29 : decode cX1_isLast 29 = .ok (.ireturn, 1) := by decide +kernel
set_option maxRecDepth 20000 in
theorem rX1_isLast {a1 a2 : Int32} {I : MI} {Q : Int32 → MI → Prop} (H : ((¬ a1 = 0 → (((a1 &&& ((1 : Int32) <<< (a2 &&& 31))) = 0 → (Q 0 I)) ∧ (¬ (a1 &&& ((1 : Int32) <<< (a2 &&& 31))) = 0 → (Q 1 I)))) ∧ (a1 = 0 → ((¬ a2 = 0 → (Q 0 I)) ∧ (a2 = 0 → (Q 1 I)))))) : Wi mX1_isLast [.int a1, .int a2] I Q := by
  show WP mX1_isLast 286 Rf0 0 [some (.int a1), some (.int a2)] [] I (qi Q)
  refine w_iload_n dX1_isLast_0 rfl rfl ?_
  refine w_if_ne (t := 16) dX1_isLast_1 (by decide) (fun h => ?_) (fun h => ?_)
  · replace H := H.1 h
    refine w_iload_n dX1_isLast_16 rfl rfl ?_
    refine w_iconst (v := 1) dX1_isLast_17 (by decide) ?_
    refine w_iload_n dX1_isLast_18 rfl rfl ?_
    refine w_ishl dX1_isLast_19 ?_
    refine w_iand dX1_isLast_20 ?_
    refine w_if_eq (t := 28) dX1_isLast_21 (by decide) (fun h => ?_) (fun h => ?_)
    · replace H := H.1 h
      refine w_iconst (v := 0) dX1_isLast_28 (by decide) ?_
      exact w_zret dX1_isLast_29 rfl rfl ⟨_, rfl, H⟩
    · replace H := H.2 h
      refine w_iconst (v := 1) dX1_isLast_24 (by decide) ?_
      refine w_goto (t := 29) dX1_isLast_25 (by decide) ?_
      exact w_zret dX1_isLast_29 rfl rfl ⟨_, rfl, H⟩
  · replace H := H.2 h
    refine w_iload_n dX1_isLast_4 rfl rfl ?_
    refine w_if_ne (t := 12) dX1_isLast_5 (by decide) (fun h => ?_) (fun h => ?_)
    · replace H := H.1 h
      refine w_iconst (v := 0) dX1_isLast_12 (by decide) ?_
      refine w_goto (t := 29) dX1_isLast_13 (by decide) ?_
      exact w_zret dX1_isLast_29 rfl rfl ⟨_, rfl, H⟩
    · replace H := H.2 h
      refine w_iconst (v := 1) dX1_isLast_8 (by decide) ?_
      refine w_goto (t := 29) dX1_isLast_9 (by decide) ?_
      exact w_zret dX1_isLast_29 rfl rfl ⟨_, rfl, H⟩
theorem dX1_isPart_0 : decode cX1_isPart 0 = .ok (.iload_n 1, 1) := by decide +kernel
theorem dX1_isPart_1 : decode cX1_isPart 1 = .ok (.aload_n 0, 1) := by decide +kernel
theorem dX1_isPart_2 : decode cX1_isPart 2 = .ok (.getfield 66, 3) := by decide +kernel
theorem dX1_isPart_5 : decode cX1_isPart 5 = .ok (.iconst (-1), 1) := by decide +kernel
theorem dX1_isPart_6 : decode cX1_isPart 6 = .ok (.ixor, 1) := by decide +kernel
theorem dX1_isPart_7 : decode cX1_isPart 7 = .ok (.iand, 1) := by decide +kernel
theorem dX1_isPart_8 : decode cX1_isPart 8 = .ok (.ifCond .ne 7, 3) := by decide +kernel
theorem dX1_isPart_11 : decode cX1_isPart 11 = .ok (.iconst 1, 1) := by decide +kernel
theorem dX1_isPart_12 : decode cX1_isPart 12 = .ok (.goto 4, 3) := by decide +kernel
theorem dX1_isPart_15 : decode cX1_isPart 15 = .ok (.iconst 0, 1) := by decide +kernel
theorem dX1_isPart_16 : decode cX1_isPart 16 = .ok (.ireturn, 1) := by decide +kernel
set_option maxRecDepth 20000 in
theorem rX1_isPart {a1 : Int32} {I : MI} {Q : Int32 → MI → Prop} (H : ((¬ (a1 &&& ((I 50 7) ^^^ ((-1) : Int32))) = 0 → (Q 0 I)) ∧ ((a1 &&& ((I 50 7) ^^^ ((-1) : Int32))) = 0 → (Q 1 I)))) : Wi mX1_isPart [.ref 50, .int a1] I Q := by
  show WP mX1_isPart 286 Rf0 0 [some (.ref 50), some (.int a1)] [] I (qi Q)
  refine w_iload_n dX1_isPart_0 rfl rfl ?_
  refine w_aload_n dX1_isPart_1 rfl rfl ?_
  refine w_getI dX1_isPart_2 fl_1_66 okC1 kd_50 (by decide) (by decide) rfl ?_
  refine w_iconst (v := (-1)) dX1_isPart_5 (by decide) ?_
  refine w_ixor dX1_isPart_6 ?_
  refine w_iand dX1_isPart_7 ?_
  refine w_if_ne (t := 15) dX1_isPart_8 (by decide) (fun h => ?_) (fun h => ?_)
  · replace H := H.1 h
    refine w_iconst (v := 0) dX1_isPart_15 (by decide) ?_
    exact w_zret dX1_isPart_16 rfl rfl ⟨_, rfl, H⟩
  · replace H := H.2 h
    refine w_iconst (v := 1) dX1_isPart_11 (by decide) ?_
    refine w_goto (t := 16) dX1_isPart_12 (by decide) ?_
    exact w_zret dX1_isPart_16 rfl rfl ⟨_, rfl, H⟩
theorem dX1_findEarliest_0 : decode cX1_findEarliest 0 = .ok (.aload_n 0, 1) := by decide +kernel
theorem dX1_findEarliest_1 : decode cX1_findEarliest 1 = .ok (.getfield 22, 3) := by decide +kernel
theorem dX1_findEarliest_4 : decode cX1_findEarliest 4 = .ok (.ldc 28, 2) := by decide +kernel
theorem dX1_findEarliest_6 : decode cX1_findEarliest 6 = .ok (.invokestatic 81, 3) := by decide +kernel
theorem dX1_findEarliest_9 : decode cX1_findEarliest 9 = .ok (.aload_n 0, 1) := by decide +kernel
theorem dX1_findEarliest_10 : decode cX1_findEarliest 10 = .ok (.getfield 22, 3) := by decide +kernel
theorem dX1_findEarliest_13 : decode cX1_findEarliest 13 = .ok (.iconst 0, 1) := by decide +kernel
theorem dX1_findEarliest_14 : decode cX1_findEarliest 14 = .ok (.iconst 0, 1) := by decide +kernel
theorem dX1_findEarliest_15 : decode cX1_findEarliest 15 = .ok (.invokestatic 100, 3) := by decide +kernel
theorem dX1_findEarliest_18 : decode cX1_findEarliest 18 = .ok (.aload_n 0, 1) := by decide +kernel
theorem dX1_findEarliest_19 : decode cX1_findEarliest 19 = .ok (.getfield 33, 3) := by decide +kernel
theorem dX1_findEarliest_22 : decode cX1_findEarliest 22 = .ok (.getfield 104, 3) := by decide +kernel
theorem dX1_findEarliest_25 : decode cX1_findEarliest 25 = .ok (.iastore, 1) := by decide +kernel
theorem dX1_findEarliest_26 : decode cX1_findEarliest 26 = .ok (.iconst 0, 1) := by decide +kernel
theorem dX1_findEarliest_27 : decode cX1_findEarliest 27 = .ok (.istore_n 1, 1) := by decide +kernel
theorem dX1_findEarliest_28 : decode cX1_findEarliest 28 = .ok (.iload_n 1, 1) := by decide +kernel
theorem dX1_findEarliest_29 : decode cX1_findEarliest 29 = .ok (.aload_n 0, 1) := by decide +kernel
theorem dX1_findEarliest_30 : decode cX1_findEarliest 30 = .ok (.getfield 66, 3) := by decide +kernel
theorem dX1_findEarliest_33 : decode cX1_findEarliest 33 = .ok (.if_icmp .gt 68, 3) := by decide +kernel
theorem dX1_findEarliest_36 : decode cX1_findEarliest 36 = .ok (.aload_n 0, 1) := by decide +kernel
theorem dX1_findEarliest_37 : decode cX1_findEarliest 37 = .ok (.iload_n 1, 1) := by decide +kernel
theorem dX1_findEarliest_38 : decode cX1_findEarliest 38 = .ok (.invokevirtual 107, 3) := by decide +kernel
theorem dX1_findEarliest_41 : decode cX1_findEarliest 41 = .ok (.ifCond .ne 6, 3) := by decide +kernel
theorem dX1_findEarliest_44 : decode cX1_findEarliest 44 = .ok (.goto 51, 3) := by decide +kernel
theorem dX1_findEarliest_47 : decode cX1_findEarliest 47 = .ok (.iconst 0, 1) := by decide +kernel
theorem dX1_findEarliest_48 : decode cX1_findEarliest 48 = .ok (.istore_n 2, 1) := by decide +kernel
theorem dX1_findEarliest_49 : decode cX1_findEarliest 49 = .ok (.iload_n 2, 1) := by decide +kernel
theorem dX1_findEarliest_50 : decode cX1_findEarliest 50 = .ok (.aload_n 0, 1) := by decide +kernel
theorem dX1_findEarliest_51 : decode cX1_findEarliest 51 = .ok (.getfield 33, 3) := by decide +kernel
theorem dX1_findEarliest_54 : decode cX1_findEarliest 54 = .ok (.getfield 111, 3) := by decide +kernel
theorem dX1_findEarliest_57 : decode cX1_findEarliest 57 = .ok (.if_icmp .ge 38, 3) := by decide +kernel
theorem dX1_findEarliest_60 : decode cX1_findEarliest 60 = .ok (.iload_n 1, 1) := by decide +kernel
theorem dX1_findEarliest_61 : decode cX1_findEarliest 61 = .ok (.iload_n 2, 1) := by decide +kernel
theorem dX1_findEarliest_62 : decode cX1_findEarliest 62 = .ok (.invokestatic 114, 3) := by decide +kernel
theorem dX1_findEarliest_65 : decode cX1_findEarliest 65 = .ok (.ifCond .eq 24, 3) := by decide +kernel
theorem dX1_findEarliest_68 : decode cX1_findEarliest 68 = .ok (.aload_n 0, 1) := by decide +kernel
theorem dX1_findEarliest_69 : decode cX1_findEarliest 69 = .ok (.getfield 22, 3) := by decide +kernel
theorem dX1_findEarliest_72 : decode cX1_findEarliest 72 = .ok (.iload_n 1, 1) := by decide +kernel
theorem dX1_findEarliest_73 : decode cX1_findEarliest 73 = .ok (.iload_n 2, 1) := by decide +kernel
theorem dX1_findEarliest_74 : decode cX1_findEarliest 74 = .ok (.invokestatic 100, 3) := by decide +kernel
theorem dX1_findEarliest_77 : decode cX1_findEarliest 77 = .ok (.iaload, 1) := by decide +kernel
theorem dX1_findEarliest_78 : decode cX1_findEarliest 78 = .ok (.ldc 28, 2) := by decide +kernel
theorem dX1_findEarliest_80 : decode cX1_findEarliest 80 = .ok (.if_icmp .eq 9, 3) := by decide +kernel
theorem dX1_findEarliest_83 : decode cX1_findEarliest 83 = .ok (.aload_n 0, 1) := by decide +kernel
theorem dX1_findEarliest_84 : decode cX1_findEarliest 84 = .ok (.iload_n 1, 1) := by decide +kernel
theorem dX1_findEarliest_85 : decode cX1_findEarliest 85 = .ok (.iload_n 2, 1) := by decide +kernel
theorem dX1_findEarliest_86 : decode cX1_findEarliest 86 = .ok (.invokevirtual 118, 3) := by decide +kernel
theorem dX1_findEarliest_89 : decode cX1_findEarliest 89 = .ok (.iinc 2 1, 3) := by decide +kernel
theorem dX1_findEarliest_92 : decode cX1_findEarliest 92 = .ok (.goto (-43), 3) := by decide +kernel
theorem dX1_findEarliest_95 : decode cX1_findEarliest 95 = .ok (.iinc 1 2, 3) := by decide +kernel
theorem dX1_findEarliest_98 : decode cX1_findEarliest 98 = .ok (.goto (-70), 3) := by decide +kernel
theorem dX1_findEarliest_101 : decode cX1_findEarliest 101 = .ok (.return_, 1) := by decide +kernel
abbrev LX1_findEarliest_28 (l1 : Int32) (I : MI) (Q : MI → Prop) : Prop := WP mX1_findEarliest 286 Rf0 28 [some (.ref 50), some (.int l1), none] [] I (qv Q)
abbrev LX1_findEarliest_49 (l1 l2 : Int32) (I : MI) (Q : MI → Prop) : Prop := WP mX1_findEarliest 286 Rf0 49 [some (.ref 50), some (.int l1), some (.int l2)] [] I (qv Q)
abbrev LX1_findEarliest_89 (l1 l2 : Int32) (I : MI) (Q : MI → Prop) : Prop := WP mX1_findEarliest 286 Rf0 89 [some (.ref 50), some (.int l1), some (.int l2)] [] I (qv Q)
abbrev LX1_findEarliest_95 (l1 : Int32) (I : MI) (Q : MI → Prop) : Prop := WP mX1_findEarliest 286 Rf0 95 [some (.ref 50), some (.int l1), none] [] I (qv Q)
set_option maxRecDepth 20000 in
theorem rX1_findEarliest_28 {l1 : Int32} {I : MI} {Q : MI → Prop} (H : (((I 50 7) < l1 → (Q I)) ∧ (¬ (I 50 7) < l1 → (Wi mX1_isPart [.ref 50, .int l1] I (fun r2 I1 => ((¬ r2 = 0 → (LX1_findEarliest_49 l1 0 I1 Q)) ∧ (r2 = 0 → (LX1_findEarliest_95 l1 I1 Q)))))))) : LX1_findEarliest_28 l1 I Q := by
  show WP mX1_findEarliest 286 Rf0 28 [some (.ref 50), some (.int l1), none] [] I (qv Q)
  refine w_iload_n dX1_findEarliest_28 rfl rfl ?_
  refine w_aload_n dX1_findEarliest_29 rfl rfl ?_
  refine w_getI dX1_findEarliest_30 fl_1_66 okC1 kd_50 (by decide) (by decide) rfl ?_
  refine w_icmp_gt (t := 101) dX1_findEarliest_33 (by decide) (fun h => ?_) (fun h => ?_)
  · replace H := H.1 h
    exact w_vret dX1_findEarliest_101 rfl ⟨rfl, H⟩
  · replace H := H.2 h
    refine w_aload_n dX1_findEarliest_36 rfl rfl ?_
    refine w_iload_n dX1_findEarliest_37 rfl rfl ?_
    refine w_callV (st := []) (As := [.int l1]) dX1_findEarliest_38 ml_1_107 okX1_isPart kd_50 (by decide) rfl rfl rfl (Nat.le_of_ble_eq_true rfl) (by decide) (Nat.le_of_ble_eq_true rfl) (wc_i H (fun r2 I1 H => ?_))
    refine w_if_ne (t := 47) dX1_findEarliest_41 (by decide) (fun h => ?_) (fun h => ?_)
    · replace H := H.1 h
      refine w_iconst (v := 0) dX1_findEarliest_47 (by decide) ?_
      refine w_istore_n (ls' := [some (.ref 50), some (.int l1), some (.int 0)]) dX1_findEarliest_48 rfl (by decide) rfl rfl ?_
      skip
      exact H
    · replace H := H.2 h
      refine w_goto (t := 95) dX1_findEarliest_44 (by decide) ?_
      skip
      exact H
set_option maxRecDepth 20000 in
theorem rX1_findEarliest_49 {l1 l2 : Int32} {I : MI} {Q : MI → Prop} (H : (((I 24 0) ≤ l2 → (LX1_findEarliest_95 l1 I Q)) ∧ (¬ (I 24 0) ≤ l2 → (Wi mX1_isLast [.int l1, .int l2] I (fun r2 I1 => ((r2 = 0 → (LX1_findEarliest_89 l1 l2 I1 Q)) ∧ (¬ r2 = 0 → (Wi mX1_place [.int l1, .int l2] I1 (fun r4 I3 => (vp_in r4 5120 ∧ ((I3 54 r4.toNatClampNeg) = 2147483647 → (LX1_findEarliest_89 l1 l2 I3 Q)) ∧ (¬ (I3 54 r4.toNatClampNeg) = 2147483647 → (Wv mX1_driveOn [.ref 50, .int l1, .int l2] I3 (fun I5 => (LX1_findEarliest_89 l1 l2 I5 Q)))))))))))))) : LX1_findEarliest_49 l1 l2 I Q := by
  show WP mX1_findEarliest 286 Rf0 49 [some (.ref 50), some (.int l1), some (.int l2)] [] I (qv Q)
  refine w_iload_n dX1_findEarliest_49 rfl rfl ?_
  refine w_aload_n dX1_findEarliest_50 rfl rfl ?_
  refine w_getR dX1_findEarliest_51 fl_1_33 okC1 kd_50 (by decide) (by decide) rfl rf_50_0 ?_
  refine w_getI dX1_findEarliest_54 fl_1_111 okC6 kd_24 (by decide) (by decide) rfl ?_
  refine w_icmp_ge (t := 95) dX1_findEarliest_57 (by decide) (fun h => ?_) (fun h => ?_)
  · replace H := H.1 h
    refine w_less (ls' := [some (.ref 50), some (.int l1), none]) (by simp [lsub]) ?_
    exact H
  · replace H := H.2 h
    refine w_iload_n dX1_findEarliest_60 rfl rfl ?_
    refine w_iload_n dX1_findEarliest_61 rfl rfl ?_
    refine w_callS (st := []) (As := [.int l1, .int l2]) dX1_findEarliest_62 ml_1_114 okX1_isLast rfl (Nat.le_of_ble_eq_true rfl) (by decide) (Nat.le_of_ble_eq_true rfl) (wc_i H (fun r2 I1 H => ?_))
    refine w_if_eq (t := 89) dX1_findEarliest_65 (by decide) (fun h => ?_) (fun h => ?_)
    · replace H := H.1 h
      skip
      exact H
    · replace H := H.2 h
      refine w_aload_n dX1_findEarliest_68 rfl rfl ?_
      refine w_getR dX1_findEarliest_69 fl_1_22 okC1 kd_50 (by decide) (by decide) rfl rf_50_5 ?_
      refine w_iload_n dX1_findEarliest_72 rfl rfl ?_
      refine w_iload_n dX1_findEarliest_73 rfl rfl ?_
      refine w_callS (st := [.ref 54]) (As := [.int l1, .int l2]) dX1_findEarliest_74 ml_1_100 okX1_place rfl (Nat.le_of_ble_eq_true rfl) (by decide) (Nat.le_of_ble_eq_true rfl) (wc_i H (fun r4 I3 H => ?_))
      refine w_iald dX1_findEarliest_77 kd_54 (by decide) H.1 ?_
      replace H := H.2
      refine w_ldc (v := 2147483647) dX1_findEarliest_78 kl_1_28 ?_
      refine w_icmp_eq (t := 89) dX1_findEarliest_80 (by decide) (fun h => ?_) (fun h => ?_)
      · replace H := H.1 h
        skip
        exact H
      · replace H := H.2 h
        refine w_aload_n dX1_findEarliest_83 rfl rfl ?_
        refine w_iload_n dX1_findEarliest_84 rfl rfl ?_
        refine w_iload_n dX1_findEarliest_85 rfl rfl ?_
        refine w_callV (st := []) (As := [.int l1, .int l2]) dX1_findEarliest_86 ml_1_118 okX1_driveOn kd_50 (by decide) rfl rfl rfl (Nat.le_of_ble_eq_true rfl) (by decide) (Nat.le_of_ble_eq_true rfl) (wc_v H (fun I5 H => ?_))
        skip
        exact H
set_option maxRecDepth 20000 in
theorem rX1_findEarliest_89 {l1 l2 : Int32} {I : MI} {Q : MI → Prop} (H : (LX1_findEarliest_49 l1 (l2 + 1) I Q)) : LX1_findEarliest_89 l1 l2 I Q := by
  show WP mX1_findEarliest 286 Rf0 89 [some (.ref 50), some (.int l1), some (.int l2)] [] I (qv Q)
  refine w_iinc (v := l2 + 1) (ls' := [some (.ref 50), some (.int l1), some (.int (l2 + 1))]) dX1_findEarliest_89 rfl rfl (by decide) rfl rfl ?_
  refine w_goto (t := 49) dX1_findEarliest_92 (by decide) ?_
  skip
  exact H
set_option maxRecDepth 20000 in
theorem rX1_findEarliest_95 {l1 : Int32} {I : MI} {Q : MI → Prop} (H : (LX1_findEarliest_28 (l1 + 2) I Q)) : LX1_findEarliest_95 l1 I Q := by
  show WP mX1_findEarliest 286 Rf0 95 [some (.ref 50), some (.int l1), none] [] I (qv Q)
  refine w_iinc (v := l1 + 2) (ls' := [some (.ref 50), some (.int (l1 + 2)), none]) dX1_findEarliest_95 rfl rfl (by decide) rfl rfl ?_
  refine w_goto (t := 28) dX1_findEarliest_98 (by decide) ?_
  skip
  exact H
set_option maxRecDepth 20000 in
theorem rX1_findEarliest {I : MI} {Q : MI → Prop} (H : (Wv mJ7_fill_53178 [.ref 54, .int 2147483647] I (fun I1 => (Wi mX1_place [.int 0, .int 0] I1 (fun r3 I2 => (vp_in r3 5120 ∧ ∀ I4 : MI, I4 = up2 I2 54 r3.toNatClampNeg (I2 24 4) → LX1_findEarliest_28 0 I4 Q)))))) : Wv mX1_findEarliest [.ref 50] I Q := by
  show WP mX1_findEarliest 286 Rf0 0 [some (.ref 50), none, none] [] I (qv Q)
  refine w_aload_n dX1_findEarliest_0 rfl rfl ?_
  refine w_getR dX1_findEarliest_1 fl_1_22 okC1 kd_50 (by decide) (by decide) rfl rf_50_5 ?_
  refine w_ldc (v := 2147483647) dX1_findEarliest_4 kl_1_28 ?_
  refine w_callS (st := []) (As := [.ref 54, .int 2147483647]) dX1_findEarliest_6 ml_1_81 okJ7_fill_53178 rfl (Nat.le_of_ble_eq_true rfl) (by decide) (Nat.le_of_ble_eq_true rfl) (wc_v H (fun I1 H => ?_))
  refine w_aload_n dX1_findEarliest_9 rfl rfl ?_
  refine w_getR dX1_findEarliest_10 fl_1_22 okC1 kd_50 (by decide) (by decide) rfl rf_50_5 ?_
  refine w_iconst (v := 0) dX1_findEarliest_13 (by decide) ?_
  refine w_iconst (v := 0) dX1_findEarliest_14 (by decide) ?_
  refine w_callS (st := [.ref 54]) (As := [.int 0, .int 0]) dX1_findEarliest_15 ml_1_100 okX1_place rfl (Nat.le_of_ble_eq_true rfl) (by decide) (Nat.le_of_ble_eq_true rfl) (wc_i H (fun r3 I2 H => ?_))
  refine w_aload_n dX1_findEarliest_18 rfl rfl ?_
  refine w_getR dX1_findEarliest_19 fl_1_33 okC1 kd_50 (by decide) (by decide) rfl rf_50_0 ?_
  refine w_getI dX1_findEarliest_22 fl_1_104 okC6 kd_24 (by decide) (by decide) rfl ?_
  refine w_iast dX1_findEarliest_25 kd_54 (by decide) H.1 (w_up fun I4 hI => ?_)
  replace H := H.2 I4 hI
  refine w_iconst (v := 0) dX1_findEarliest_26 (by decide) ?_
  refine w_istore_n (ls' := [some (.ref 50), some (.int 0), none]) dX1_findEarliest_27 rfl (by decide) rfl rfl ?_
  skip
  exact H
theorem dX1_driveOn_0 : decode cX1_driveOn 0 = .ok (.aload_n 0, 1) := by decide +kernel
theorem dX1_driveOn_1 : decode cX1_driveOn 1 = .ok (.getfield 41, 3) := by decide +kernel
theorem dX1_driveOn_4 : decode cX1_driveOn 4 = .ok (.iload_n 2, 1) := by decide +kernel
theorem dX1_driveOn_5 : decode cX1_driveOn 5 = .ok (.aload_n 0, 1) := by decide +kernel
theorem dX1_driveOn_6 : decode cX1_driveOn 6 = .ok (.getfield 22, 3) := by decide +kernel
theorem dX1_driveOn_9 : decode cX1_driveOn 9 = .ok (.iload_n 1, 1) := by decide +kernel
theorem dX1_driveOn_10 : decode cX1_driveOn 10 = .ok (.iload_n 2, 1) := by decide +kernel
theorem dX1_driveOn_11 : decode cX1_driveOn 11 = .ok (.invokestatic 100, 3) := by decide +kernel
theorem dX1_driveOn_14 : decode cX1_driveOn 14 = .ok (.iaload, 1) := by decide +kernel
theorem dX1_driveOn_15 : decode cX1_driveOn 15 = .ok (.invokevirtual 122, 3) := by decide +kernel
theorem dX1_driveOn_18 : decode cX1_driveOn 18 = .ok (.astore_n 3, 1) := by decide +kernel
theorem dX1_driveOn_19 : decode cX1_driveOn 19 = .ok (.iload_n 1, 1) := by decide +kernel
theorem dX1_driveOn_20 : decode cX1_driveOn 20 = .ok (.aload_n 0, 1) := by decide +kernel
theorem dX1_driveOn_21 : decode cX1_driveOn 21 = .ok (.getfield 66, 3) := by decide +kernel
theorem dX1_driveOn_24 : decode cX1_driveOn 24 = .ok (.if_icmp .ne 18, 3) := by decide +kernel
theorem dX1_driveOn_27 : decode cX1_driveOn 27 = .ok (.aload_n 0, 1) := by decide +kernel
theorem dX1_driveOn_28 : decode cX1_driveOn 28 = .ok (.aload_n 0, 1) := by decide +kernel
theorem dX1_driveOn_29 : decode cX1_driveOn 29 = .ok (.getfield 29, 3) := by decide +kernel
theorem dX1_driveOn_32 : decode cX1_driveOn 32 = .ok (.aload_n 3, 1) := by decide +kernel
theorem dX1_driveOn_33 : decode cX1_driveOn 33 = .ok (.iconst 0, 1) := by decide +kernel
theorem dX1_driveOn_34 : decode cX1_driveOn 34 = .ok (.iaload, 1) := by decide +kernel
theorem dX1_driveOn_35 : decode cX1_driveOn 35 = .ok (.invokestatic 128, 3) := by decide +kernel
theorem dX1_driveOn_38 : decode cX1_driveOn 38 = .ok (.putfield 29, 3) := by decide +kernel
theorem dX1_driveOn_41 : decode cX1_driveOn 41 = .ok (.return_, 1) := by decide +kernel
theorem dX1_driveOn_42 : decode cX1_driveOn 42 = .ok (.iconst 1, 1) := by decide +kernel
theorem dX1_driveOn_43 : decode cX1_driveOn 43 = .ok (.istore 4, 2) := by decide +kernel
theorem dX1_driveOn_45 : decode cX1_driveOn 45 = .ok (.iload 4, 2) := by decide +kernel
theorem dX1_driveOn_47 : decode cX1_driveOn 47 = .ok (.aload_n 0, 1) := by decide +kernel
theorem dX1_driveOn_48 : decode cX1_driveOn 48 = .ok (.getfield 33, 3) := by decide +kernel
theorem dX1_driveOn_51 : decode cX1_driveOn 51 = .ok (.getfield 111, 3) := by decide +kernel
theorem dX1_driveOn_54 : decode cX1_driveOn 54 = .ok (.if_icmp .ge 76, 3) := by decide +kernel
theorem dX1_driveOn_57 : decode cX1_driveOn 57 = .ok (.aload_n 0, 1) := by decide +kernel
theorem dX1_driveOn_58 : decode cX1_driveOn 58 = .ok (.getfield 66, 3) := by decide +kernel
theorem dX1_driveOn_61 : decode cX1_driveOn 61 = .ok (.iload_n 1, 1) := by decide +kernel
theorem dX1_driveOn_62 : decode cX1_driveOn 62 = .ok (.iconst (-1), 1) := by decide +kernel
theorem dX1_driveOn_63 : decode cX1_driveOn 63 = .ok (.ixor, 1) := by decide +kernel
theorem dX1_driveOn_64 : decode cX1_driveOn 64 = .ok (.iand, 1) := by decide +kernel
theorem dX1_driveOn_65 : decode cX1_driveOn 65 = .ok (.iconst 1, 1) := by decide +kernel
theorem dX1_driveOn_66 : decode cX1_driveOn 66 = .ok (.iload 4, 2) := by decide +kernel
theorem dX1_driveOn_68 : decode cX1_driveOn 68 = .ok (.ishl, 1) := by decide +kernel
theorem dX1_driveOn_69 : decode cX1_driveOn 69 = .ok (.iand, 1) := by decide +kernel
theorem dX1_driveOn_70 : decode cX1_driveOn 70 = .ok (.ifCond .eq 54, 3) := by decide +kernel
theorem dX1_driveOn_73 : decode cX1_driveOn 73 = .ok (.aload_n 3, 1) := by decide +kernel
theorem dX1_driveOn_74 : decode cX1_driveOn 74 = .ok (.iload 4, 2) := by decide +kernel
theorem dX1_driveOn_76 : decode cX1_driveOn 76 = .ok (.iaload, 1) := by decide +kernel
theorem dX1_driveOn_77 : decode cX1_driveOn 77 = .ok (.ldc 28, 2) := by decide +kernel
theorem dX1_driveOn_79 : decode cX1_driveOn 79 = .ok (.if_icmp .eq 45, 3) := by decide +kernel
theorem dX1_driveOn_82 : decode cX1_driveOn 82 = .ok (.iload_n 1, 1) := by decide +kernel
theorem dX1_driveOn_83 : decode cX1_driveOn 83 = .ok (.iconst 1, 1) := by decide +kernel
theorem dX1_driveOn_84 : decode cX1_driveOn 84 = .ok (.iload 4, 2) := by decide +kernel
theorem dX1_driveOn_86 : decode cX1_driveOn 86 = .ok (.ishl, 1) := by decide +kernel
theorem dX1_driveOn_87 : decode cX1_driveOn 87 = .ok (.ior, 1) := by decide +kernel
theorem dX1_driveOn_88 : decode cX1_driveOn 88 = .ok (.iload 4, 2) := by decide +kernel
theorem dX1_driveOn_90 : decode cX1_driveOn 90 = .ok (.invokestatic 100, 3) := by decide +kernel
theorem dX1_driveOn_93 : decode cX1_driveOn 93 = .ok (.istore 5, 2) := by decide +kernel
theorem dX1_driveOn_95 : decode cX1_driveOn 95 = .ok (.aload_n 0, 1) := by decide +kernel
theorem dX1_driveOn_96 : decode cX1_driveOn 96 = .ok (.getfield 22, 3) := by decide +kernel
theorem dX1_driveOn_99 : decode cX1_driveOn 99 = .ok (.iload 5, 2) := by decide +kernel
theorem dX1_driveOn_101 : decode cX1_driveOn 101 = .ok (.aload_n 0, 1) := by decide +kernel
theorem dX1_driveOn_102 : decode cX1_driveOn 102 = .ok (.getfield 22, 3) := by decide +kernel
theorem dX1_driveOn_105 : decode cX1_driveOn 105 = .ok (.iload 5, 2) := by decide +kernel
theorem dX1_driveOn_107 : decode cX1_driveOn 107 = .ok (.iaload, 1) := by decide +kernel
theorem dX1_driveOn_108 : decode cX1_driveOn 108 = .ok (.aload_n 3, 1) := by decide +kernel
theorem dX1_driveOn_109 : decode cX1_driveOn 109 = .ok (.iload 4, 2) := by decide +kernel
theorem dX1_driveOn_111 : decode cX1_driveOn 111 = .ok (.iaload, 1) := by decide +kernel
theorem dX1_driveOn_112 : decode cX1_driveOn 112 = .ok (.aload_n 0, 1) := by decide +kernel
theorem dX1_driveOn_113 : decode cX1_driveOn 113 = .ok (.getfield 18, 3) := by decide +kernel
theorem dX1_driveOn_116 : decode cX1_driveOn 116 = .ok (.iload 4, 2) := by decide +kernel
theorem dX1_driveOn_118 : decode cX1_driveOn 118 = .ok (.iaload, 1) := by decide +kernel
theorem dX1_driveOn_119 : decode cX1_driveOn 119 = .ok (.iadd, 1) := by decide +kernel
theorem dX1_driveOn_120 : decode cX1_driveOn 120 = .ok (.invokestatic 128, 3) := by decide +kernel
theorem dX1_driveOn_123 : decode cX1_driveOn 123 = .ok (.iastore, 1) := by decide +kernel
theorem dX1_driveOn_124 : decode cX1_driveOn 124 = .ok (.iinc 4 1, 3) := by decide +kernel
theorem dX1_driveOn_127 : decode cX1_driveOn 127 = .ok (.goto (-82), 3) := by decide +kernel
theorem dX1_driveOn_130 : decode cX1_driveOn 130 = .ok (.return_, 1) := by decide +kernel
abbrev LX1_driveOn_45 (l1 l2 l4 : Int32) (I : MI) (Q : MI → Prop) : Prop := WP mX1_driveOn 286 Rf0 45 [some (.ref 50), some (.int l1), some (.int l2), some (.ref 46), some (.int l4), none] [] I (qv Q)
abbrev LX1_driveOn_124 (l1 l2 l4 : Int32) (I : MI) (Q : MI → Prop) : Prop := WP mX1_driveOn 286 Rf0 124 [some (.ref 50), some (.int l1), some (.int l2), some (.ref 46), some (.int l4), none] [] I (qv Q)
set_option maxRecDepth 20000 in
theorem rX1_driveOn_45 {l1 l2 l4 : Int32} {I : MI} {Q : MI → Prop} (H : (((I 24 0) ≤ l4 → (Q I)) ∧ (¬ (I 24 0) ≤ l4 → (((((I 50 7) &&& (l1 ^^^ ((-1) : Int32))) &&& ((1 : Int32) <<< (l4 &&& 31))) = 0 → (LX1_driveOn_124 l1 l2 l4 I Q)) ∧ (¬ (((I 50 7) &&& (l1 ^^^ ((-1) : Int32))) &&& ((1 : Int32) <<< (l4 &&& 31))) = 0 → (vp_in l4 10 ∧ ((I 46 l4.toNatClampNeg) = 2147483647 → (LX1_driveOn_124 l1 l2 l4 I Q)) ∧ (¬ (I 46 l4.toNatClampNeg) = 2147483647 → (Wi mX1_place [.int (l1 ||| ((1 : Int32) <<< (l4 &&& 31))), .int l4] I (fun r2 I1 => (vp_in r2 5120 ∧ vp_in l4 10 ∧ vp_in l4 10 ∧ ∀ x3 : Int32, x3 = (if ((I1 46 l4.toNatClampNeg) + (I1 53 l4.toNatClampNeg)) < (I1 54 r2.toNatClampNeg) then ((I1 46 l4.toNatClampNeg) + (I1 53 l4.toNatClampNeg)) else (I1 54 r2.toNatClampNeg)) → vp_in r2 5120 ∧ ∀ I4 : MI, I4 = up2 I1 54 r2.toNatClampNeg x3 → LX1_driveOn_124 l1 l2 l4 I4 Q)))))))))) : LX1_driveOn_45 l1 l2 l4 I Q := by
  show WP mX1_driveOn 286 Rf0 45 [some (.ref 50), some (.int l1), some (.int l2), some (.ref 46), some (.int l4), none] [] I (qv Q)
  refine w_iload dX1_driveOn_45 rfl ?_
  refine w_aload_n dX1_driveOn_47 rfl rfl ?_
  refine w_getR dX1_driveOn_48 fl_1_33 okC1 kd_50 (by decide) (by decide) rfl rf_50_0 ?_
  refine w_getI dX1_driveOn_51 fl_1_111 okC6 kd_24 (by decide) (by decide) rfl ?_
  refine w_icmp_ge (t := 130) dX1_driveOn_54 (by decide) (fun h => ?_) (fun h => ?_)
  · replace H := H.1 h
    exact w_vret dX1_driveOn_130 rfl ⟨rfl, H⟩
  · replace H := H.2 h
    refine w_aload_n dX1_driveOn_57 rfl rfl ?_
    refine w_getI dX1_driveOn_58 fl_1_66 okC1 kd_50 (by decide) (by decide) rfl ?_
    refine w_iload_n dX1_driveOn_61 rfl rfl ?_
    refine w_iconst (v := (-1)) dX1_driveOn_62 (by decide) ?_
    refine w_ixor dX1_driveOn_63 ?_
    refine w_iand dX1_driveOn_64 ?_
    refine w_iconst (v := 1) dX1_driveOn_65 (by decide) ?_
    refine w_iload dX1_driveOn_66 rfl ?_
    refine w_ishl dX1_driveOn_68 ?_
    refine w_iand dX1_driveOn_69 ?_
    refine w_if_eq (t := 124) dX1_driveOn_70 (by decide) (fun h => ?_) (fun h => ?_)
    · replace H := H.1 h
      skip
      exact H
    · replace H := H.2 h
      refine w_aload_n dX1_driveOn_73 rfl rfl ?_
      refine w_iload dX1_driveOn_74 rfl ?_
      refine w_iald dX1_driveOn_76 kd_46 (by decide) H.1 ?_
      replace H := H.2
      refine w_ldc (v := 2147483647) dX1_driveOn_77 kl_1_28 ?_
      refine w_icmp_eq (t := 124) dX1_driveOn_79 (by decide) (fun h => ?_) (fun h => ?_)
      · replace H := H.1 h
        skip
        exact H
      · replace H := H.2 h
        refine w_iload_n dX1_driveOn_82 rfl rfl ?_
        refine w_iconst (v := 1) dX1_driveOn_83 (by decide) ?_
        refine w_iload dX1_driveOn_84 rfl ?_
        refine w_ishl dX1_driveOn_86 ?_
        refine w_ior dX1_driveOn_87 ?_
        refine w_iload dX1_driveOn_88 rfl ?_
        refine w_callS (st := []) (As := [.int (l1 ||| ((1 : Int32) <<< (l4 &&& 31))), .int l4]) dX1_driveOn_90 ml_1_100 okX1_place rfl (Nat.le_of_ble_eq_true rfl) (by decide) (Nat.le_of_ble_eq_true rfl) (wc_i H (fun r2 I1 H => ?_))
        refine w_istore (ls' := [some (.ref 50), some (.int l1), some (.int l2), some (.ref 46), some (.int l4), some (.int r2)]) dX1_driveOn_93 (by decide) rfl rfl ?_
        refine w_aload_n dX1_driveOn_95 rfl rfl ?_
        refine w_getR dX1_driveOn_96 fl_1_22 okC1 kd_50 (by decide) (by decide) rfl rf_50_5 ?_
        refine w_iload dX1_driveOn_99 rfl ?_
        refine w_aload_n dX1_driveOn_101 rfl rfl ?_
        refine w_getR dX1_driveOn_102 fl_1_22 okC1 kd_50 (by decide) (by decide) rfl rf_50_5 ?_
        refine w_iload dX1_driveOn_105 rfl ?_
        refine w_iald dX1_driveOn_107 kd_54 (by decide) H.1 ?_
        replace H := H.2
        refine w_aload_n dX1_driveOn_108 rfl rfl ?_
        refine w_iload dX1_driveOn_109 rfl ?_
        refine w_iald dX1_driveOn_111 kd_46 (by decide) H.1 ?_
        replace H := H.2
        refine w_aload_n dX1_driveOn_112 rfl rfl ?_
        refine w_getR dX1_driveOn_113 fl_1_18 okC1 kd_50 (by decide) (by decide) rfl rf_50_4 ?_
        refine w_iload dX1_driveOn_116 rfl ?_
        refine w_iald dX1_driveOn_118 kd_53 (by decide) H.1 ?_
        replace H := H.2
        refine w_iadd dX1_driveOn_119 ?_
        refine w_min dX1_driveOn_120 ml_1_128 minS maI minC (by decide) (Nat.le_of_ble_eq_true rfl) ?_
        refine w_top fun x3 hx => ?_
        replace H := H x3 hx
        refine w_iast dX1_driveOn_123 kd_54 (by decide) H.1 (w_up fun I4 hI => ?_)
        replace H := H.2 I4 hI
        refine w_less (ls' := [some (.ref 50), some (.int l1), some (.int l2), some (.ref 46), some (.int l4), none]) (by simp [lsub]) ?_
        exact H
set_option maxRecDepth 20000 in
theorem rX1_driveOn_124 {l1 l2 l4 : Int32} {I : MI} {Q : MI → Prop} (H : (LX1_driveOn_45 l1 l2 (l4 + 1) I Q)) : LX1_driveOn_124 l1 l2 l4 I Q := by
  show WP mX1_driveOn 286 Rf0 124 [some (.ref 50), some (.int l1), some (.int l2), some (.ref 46), some (.int l4), none] [] I (qv Q)
  refine w_iinc (v := l4 + 1) (ls' := [some (.ref 50), some (.int l1), some (.int l2), some (.ref 46), some (.int (l4 + 1)), none]) dX1_driveOn_124 rfl rfl (by decide) rfl rfl ?_
  refine w_goto (t := 45) dX1_driveOn_127 (by decide) ?_
  skip
  exact H
set_option maxRecDepth 20000 in
theorem rX1_driveOn {a1 a2 : Int32} {I : MI} {Q : MI → Prop} (H : (Wi mX1_place [.int a1, .int a2] I (fun r2 I1 => (vp_in r2 5120 ∧ Wr mX4_arrivalsFrom [.ref 45, .int a2, .int (I1 54 r2.toNatClampNeg)] I1 (fun r4 I3 => r4 = 46 ∧ ((¬ a1 = (I3 50 7) → (LX1_driveOn_45 a1 a2 1 I3 Q)) ∧ (a1 = (I3 50 7) → (vp_in 0 10 ∧ ∀ x5 : Int32, x5 = (if (I3 46 (0 : Int32).toNatClampNeg) < (I3 50 8) then (I3 46 (0 : Int32).toNatClampNeg) else (I3 50 8)) → ∀ I6 : MI, I6 = up2 I3 50 8 x5 → Q I6)))))))) : Wv mX1_driveOn [.ref 50, .int a1, .int a2] I Q := by
  show WP mX1_driveOn 286 Rf0 0 [some (.ref 50), some (.int a1), some (.int a2), none, none, none] [] I (qv Q)
  refine w_aload_n dX1_driveOn_0 rfl rfl ?_
  refine w_getR dX1_driveOn_1 fl_1_41 okC1 kd_50 (by decide) (by decide) rfl rf_50_2 ?_
  refine w_iload_n dX1_driveOn_4 rfl rfl ?_
  refine w_aload_n dX1_driveOn_5 rfl rfl ?_
  refine w_getR dX1_driveOn_6 fl_1_22 okC1 kd_50 (by decide) (by decide) rfl rf_50_5 ?_
  refine w_iload_n dX1_driveOn_9 rfl rfl ?_
  refine w_iload_n dX1_driveOn_10 rfl rfl ?_
  refine w_callS (st := [.ref 54, .int a2, .ref 45]) (As := [.int a1, .int a2]) dX1_driveOn_11 ml_1_100 okX1_place rfl (Nat.le_of_ble_eq_true rfl) (by decide) (Nat.le_of_ble_eq_true rfl) (wc_i H (fun r2 I1 H => ?_))
  refine w_iald dX1_driveOn_14 kd_54 (by decide) H.1 ?_
  replace H := H.2
  refine w_callV (st := []) (As := [.int a2, .int (I1 54 r2.toNatClampNeg)]) dX1_driveOn_15 ml_1_122 okX4_arrivalsFrom kd_45 (by decide) rfl rfl rfl (Nat.le_of_ble_eq_true rfl) (by decide) (Nat.le_of_ble_eq_true rfl) (wc_r H (fun r4 I3 H => ?_))
  obtain ⟨rfl, H⟩ := H
  refine w_astore_n (ls' := [some (.ref 50), some (.int a1), some (.int a2), some (.ref 46), none, none]) dX1_driveOn_18 rfl (by decide) rfl rfl ?_
  refine w_iload_n dX1_driveOn_19 rfl rfl ?_
  refine w_aload_n dX1_driveOn_20 rfl rfl ?_
  refine w_getI dX1_driveOn_21 fl_1_66 okC1 kd_50 (by decide) (by decide) rfl ?_
  refine w_icmp_ne (t := 42) dX1_driveOn_24 (by decide) (fun h => ?_) (fun h => ?_)
  · replace H := H.1 h
    refine w_iconst (v := 1) dX1_driveOn_42 (by decide) ?_
    refine w_istore (ls' := [some (.ref 50), some (.int a1), some (.int a2), some (.ref 46), some (.int 1), none]) dX1_driveOn_43 (by decide) rfl rfl ?_
    skip
    exact H
  · replace H := H.2 h
    refine w_aload_n dX1_driveOn_27 rfl rfl ?_
    refine w_aload_n dX1_driveOn_28 rfl rfl ?_
    refine w_getI dX1_driveOn_29 fl_1_29 okC1 kd_50 (by decide) (by decide) rfl ?_
    refine w_aload_n dX1_driveOn_32 rfl rfl ?_
    refine w_iconst (v := 0) dX1_driveOn_33 (by decide) ?_
    refine w_iald dX1_driveOn_34 kd_46 (by decide) H.1 ?_
    replace H := H.2
    refine w_min dX1_driveOn_35 ml_1_128 minS maI minC (by decide) (Nat.le_of_ble_eq_true rfl) ?_
    refine w_top fun x5 hx => ?_
    replace H := H x5 hx
    refine w_putI dX1_driveOn_38 fl_1_29 okC1 kd_50 (by decide) (by decide) rfl rfl rfl (w_up fun I6 hI => ?_)
    replace H := H I6 hI
    exact w_vret dX1_driveOn_41 rfl ⟨rfl, H⟩
theorem dX1_findLatest_0 : decode cX1_findLatest 0 = .ok (.aload_n 0, 1) := by decide +kernel
theorem dX1_findLatest_1 : decode cX1_findLatest 1 = .ok (.getfield 25, 3) := by decide +kernel
theorem dX1_findLatest_4 : decode cX1_findLatest 4 = .ok (.iconst (-1), 1) := by decide +kernel
theorem dX1_findLatest_5 : decode cX1_findLatest 5 = .ok (.invokestatic 81, 3) := by decide +kernel
theorem dX1_findLatest_8 : decode cX1_findLatest 8 = .ok (.aload_n 0, 1) := by decide +kernel
theorem dX1_findLatest_9 : decode cX1_findLatest 9 = .ok (.aload_n 0, 1) := by decide +kernel
theorem dX1_findLatest_10 : decode cX1_findLatest 10 = .ok (.getfield 66, 3) := by decide +kernel
theorem dX1_findLatest_13 : decode cX1_findLatest 13 = .ok (.aload_n 0, 1) := by decide +kernel
theorem dX1_findLatest_14 : decode cX1_findLatest 14 = .ok (.getfield 41, 3) := by decide +kernel
theorem dX1_findLatest_17 : decode cX1_findLatest 17 = .ok (.iconst 0, 1) := by decide +kernel
theorem dX1_findLatest_18 : decode cX1_findLatest 18 = .ok (.aload_n 0, 1) := by decide +kernel
theorem dX1_findLatest_19 : decode cX1_findLatest 19 = .ok (.getfield 29, 3) := by decide +kernel
theorem dX1_findLatest_22 : decode cX1_findLatest 22 = .ok (.invokevirtual 133, 3) := by decide +kernel
theorem dX1_findLatest_25 : decode cX1_findLatest 25 = .ok (.invokevirtual 136, 3) := by decide +kernel
theorem dX1_findLatest_28 : decode cX1_findLatest 28 = .ok (.aload_n 0, 1) := by decide +kernel
theorem dX1_findLatest_29 : decode cX1_findLatest 29 = .ok (.getfield 66, 3) := by decide +kernel
theorem dX1_findLatest_32 : decode cX1_findLatest 32 = .ok (.istore_n 1, 1) := by decide +kernel
theorem dX1_findLatest_33 : decode cX1_findLatest 33 = .ok (.iload_n 1, 1) := by decide +kernel
theorem dX1_findLatest_34 : decode cX1_findLatest 34 = .ok (.ifCond .le 100, 3) := by decide +kernel
theorem dX1_findLatest_37 : decode cX1_findLatest 37 = .ok (.aload_n 0, 1) := by decide +kernel
theorem dX1_findLatest_38 : decode cX1_findLatest 38 = .ok (.iload_n 1, 1) := by decide +kernel
theorem dX1_findLatest_39 : decode cX1_findLatest 39 = .ok (.invokevirtual 107, 3) := by decide +kernel
theorem dX1_findLatest_42 : decode cX1_findLatest 42 = .ok (.ifCond .ne 6, 3) := by decide +kernel
theorem dX1_findLatest_45 : decode cX1_findLatest 45 = .ok (.goto 83, 3) := by decide +kernel
theorem dX1_findLatest_48 : decode cX1_findLatest 48 = .ok (.iconst 1, 1) := by decide +kernel
theorem dX1_findLatest_49 : decode cX1_findLatest 49 = .ok (.istore_n 2, 1) := by decide +kernel
theorem dX1_findLatest_50 : decode cX1_findLatest 50 = .ok (.iload_n 2, 1) := by decide +kernel
theorem dX1_findLatest_51 : decode cX1_findLatest 51 = .ok (.aload_n 0, 1) := by decide +kernel
theorem dX1_findLatest_52 : decode cX1_findLatest 52 = .ok (.getfield 33, 3) := by decide +kernel
theorem dX1_findLatest_55 : decode cX1_findLatest 55 = .ok (.getfield 111, 3) := by decide +kernel
theorem dX1_findLatest_58 : decode cX1_findLatest 58 = .ok (.if_icmp .ge 70, 3) := by decide +kernel
theorem dX1_findLatest_61 : decode cX1_findLatest 61 = .ok (.iload_n 1, 1) := by decide +kernel
theorem dX1_findLatest_62 : decode cX1_findLatest 62 = .ok (.iload_n 2, 1) := by decide +kernel
theorem dX1_findLatest_63 : decode cX1_findLatest 63 = .ok (.invokestatic 100, 3) := by decide +kernel
theorem dX1_findLatest_66 : decode cX1_findLatest 66 = .ok (.istore_n 3, 1) := by decide +kernel
theorem dX1_findLatest_67 : decode cX1_findLatest 67 = .ok (.iload_n 1, 1) := by decide +kernel
theorem dX1_findLatest_68 : decode cX1_findLatest 68 = .ok (.iload_n 2, 1) := by decide +kernel
theorem dX1_findLatest_69 : decode cX1_findLatest 69 = .ok (.invokestatic 114, 3) := by decide +kernel
theorem dX1_findLatest_72 : decode cX1_findLatest 72 = .ok (.ifCond .eq 50, 3) := by decide +kernel
theorem dX1_findLatest_75 : decode cX1_findLatest 75 = .ok (.aload_n 0, 1) := by decide +kernel
theorem dX1_findLatest_76 : decode cX1_findLatest 76 = .ok (.getfield 22, 3) := by decide +kernel
theorem dX1_findLatest_79 : decode cX1_findLatest 79 = .ok (.iload_n 3, 1) := by decide +kernel
theorem dX1_findLatest_80 : decode cX1_findLatest 80 = .ok (.iaload, 1) := by decide +kernel
theorem dX1_findLatest_81 : decode cX1_findLatest 81 = .ok (.aload_n 0, 1) := by decide +kernel
theorem dX1_findLatest_82 : decode cX1_findLatest 82 = .ok (.getfield 25, 3) := by decide +kernel
theorem dX1_findLatest_85 : decode cX1_findLatest 85 = .ok (.iload_n 3, 1) := by decide +kernel
theorem dX1_findLatest_86 : decode cX1_findLatest 86 = .ok (.iaload, 1) := by decide +kernel
theorem dX1_findLatest_87 : decode cX1_findLatest 87 = .ok (.if_icmp .gt 35, 3) := by decide +kernel
theorem dX1_findLatest_90 : decode cX1_findLatest 90 = .ok (.aload_n 0, 1) := by decide +kernel
theorem dX1_findLatest_91 : decode cX1_findLatest 91 = .ok (.iload_n 1, 1) := by decide +kernel
theorem dX1_findLatest_92 : decode cX1_findLatest 92 = .ok (.iconst 1, 1) := by decide +kernel
theorem dX1_findLatest_93 : decode cX1_findLatest 93 = .ok (.iload_n 2, 1) := by decide +kernel
theorem dX1_findLatest_94 : decode cX1_findLatest 94 = .ok (.ishl, 1) := by decide +kernel
theorem dX1_findLatest_95 : decode cX1_findLatest 95 = .ok (.iconst (-1), 1) := by decide +kernel
theorem dX1_findLatest_96 : decode cX1_findLatest 96 = .ok (.ixor, 1) := by decide +kernel
theorem dX1_findLatest_97 : decode cX1_findLatest 97 = .ok (.iand, 1) := by decide +kernel
theorem dX1_findLatest_98 : decode cX1_findLatest 98 = .ok (.aload_n 0, 1) := by decide +kernel
theorem dX1_findLatest_99 : decode cX1_findLatest 99 = .ok (.getfield 41, 3) := by decide +kernel
theorem dX1_findLatest_102 : decode cX1_findLatest 102 = .ok (.iload_n 2, 1) := by decide +kernel
theorem dX1_findLatest_103 : decode cX1_findLatest 103 = .ok (.aload_n 0, 1) := by decide +kernel
theorem dX1_findLatest_104 : decode cX1_findLatest 104 = .ok (.getfield 25, 3) := by decide +kernel
theorem dX1_findLatest_107 : decode cX1_findLatest 107 = .ok (.iload_n 3, 1) := by decide +kernel
theorem dX1_findLatest_108 : decode cX1_findLatest 108 = .ok (.iaload, 1) := by decide +kernel
theorem dX1_findLatest_109 : decode cX1_findLatest 109 = .ok (.aload_n 0, 1) := by decide +kernel
theorem dX1_findLatest_110 : decode cX1_findLatest 110 = .ok (.getfield 18, 3) := by decide +kernel
theorem dX1_findLatest_113 : decode cX1_findLatest 113 = .ok (.iload_n 2, 1) := by decide +kernel
theorem dX1_findLatest_114 : decode cX1_findLatest 114 = .ok (.iaload, 1) := by decide +kernel
theorem dX1_findLatest_115 : decode cX1_findLatest 115 = .ok (.isub, 1) := by decide +kernel
theorem dX1_findLatest_116 : decode cX1_findLatest 116 = .ok (.invokevirtual 133, 3) := by decide +kernel
theorem dX1_findLatest_119 : decode cX1_findLatest 119 = .ok (.invokevirtual 136, 3) := by decide +kernel
theorem dX1_findLatest_122 : decode cX1_findLatest 122 = .ok (.iinc 2 1, 3) := by decide +kernel
theorem dX1_findLatest_125 : decode cX1_findLatest 125 = .ok (.goto (-75), 3) := by decide +kernel
theorem dX1_findLatest_128 : decode cX1_findLatest 128 = .ok (.iinc 1 (-2), 3) := by decide +kernel
theorem dX1_findLatest_131 : decode cX1_findLatest 131 = .ok (.goto (-98), 3) := by decide +kernel
theorem dX1_findLatest_134 : decode cX1_findLatest 134 = .ok (.return_, 1) := by decide +kernel
abbrev LX1_findLatest_33 (l1 : Int32) (I : MI) (Q : MI → Prop) : Prop := WP mX1_findLatest 286 Rf0 33 [some (.ref 50), some (.int l1), none, none] [] I (qv Q)
abbrev LX1_findLatest_50 (l1 l2 : Int32) (I : MI) (Q : MI → Prop) : Prop := WP mX1_findLatest 286 Rf0 50 [some (.ref 50), some (.int l1), some (.int l2), none] [] I (qv Q)
abbrev LX1_findLatest_122 (l1 l2 l3 : Int32) (I : MI) (Q : MI → Prop) : Prop := WP mX1_findLatest 286 Rf0 122 [some (.ref 50), some (.int l1), some (.int l2), some (.int l3)] [] I (qv Q)
abbrev LX1_findLatest_128 (l1 : Int32) (I : MI) (Q : MI → Prop) : Prop := WP mX1_findLatest 286 Rf0 128 [some (.ref 50), some (.int l1), none, none] [] I (qv Q)
set_option maxRecDepth 20000 in
theorem rX1_findLatest_33 {l1 : Int32} {I : MI} {Q : MI → Prop} (H : ((l1 ≤ 0 → (Q I)) ∧ (¬ l1 ≤ 0 → (Wi mX1_isPart [.ref 50, .int l1] I (fun r2 I1 => ((¬ r2 = 0 → (LX1_findLatest_50 l1 1 I1 Q)) ∧ (r2 = 0 → (LX1_findLatest_128 l1 I1 Q)))))))) : LX1_findLatest_33 l1 I Q := by
  show WP mX1_findLatest 286 Rf0 33 [some (.ref 50), some (.int l1), none, none] [] I (qv Q)
  refine w_iload_n dX1_findLatest_33 rfl rfl ?_
  refine w_if_le (t := 134) dX1_findLatest_34 (by decide) (fun h => ?_) (fun h => ?_)
  · replace H := H.1 h
    exact w_vret dX1_findLatest_134 rfl ⟨rfl, H⟩
  · replace H := H.2 h
    refine w_aload_n dX1_findLatest_37 rfl rfl ?_
    refine w_iload_n dX1_findLatest_38 rfl rfl ?_
    refine w_callV (st := []) (As := [.int l1]) dX1_findLatest_39 ml_1_107 okX1_isPart kd_50 (by decide) rfl rfl rfl (Nat.le_of_ble_eq_true rfl) (by decide) (Nat.le_of_ble_eq_true rfl) (wc_i H (fun r2 I1 H => ?_))
    refine w_if_ne (t := 48) dX1_findLatest_42 (by decide) (fun h => ?_) (fun h => ?_)
    · replace H := H.1 h
      refine w_iconst (v := 1) dX1_findLatest_48 (by decide) ?_
      refine w_istore_n (ls' := [some (.ref 50), some (.int l1), some (.int 1), none]) dX1_findLatest_49 rfl (by decide) rfl rfl ?_
      skip
      exact H
    · replace H := H.2 h
      refine w_goto (t := 128) dX1_findLatest_45 (by decide) ?_
      skip
      exact H
set_option maxRecDepth 20000 in
theorem rX1_findLatest_50 {l1 l2 : Int32} {I : MI} {Q : MI → Prop} (H : (((I 24 0) ≤ l2 → (LX1_findLatest_128 l1 I Q)) ∧ (¬ (I 24 0) ≤ l2 → (Wi mX1_place [.int l1, .int l2] I (fun r2 I1 => (Wi mX1_isLast [.int l1, .int l2] I1 (fun r4 I3 => ((r4 = 0 → (LX1_findLatest_122 l1 l2 r2 I3 Q)) ∧ (¬ r4 = 0 → (vp_in r2 5120 ∧ vp_in r2 5120 ∧ ((I3 55 r2.toNatClampNeg) < (I3 54 r2.toNatClampNeg) → (LX1_findLatest_122 l1 l2 r2 I3 Q)) ∧ (¬ (I3 55 r2.toNatClampNeg) < (I3 54 r2.toNatClampNeg) → (vp_in r2 5120 ∧ vp_in l2 10 ∧ Wr mX4_departuresTo [.ref 45, .int l2, .int ((I3 55 r2.toNatClampNeg) - (I3 53 l2.toNatClampNeg))] I3 (fun r6 I5 => r6 = 47 ∧ (Wv mX1_allow [.ref 50, .int (l1 &&& (((1 : Int32) <<< (l2 &&& 31)) ^^^ ((-1) : Int32))), .ref 47] I5 (fun I7 => (LX1_findLatest_122 l1 l2 r2 I7 Q)))))))))))))))) : LX1_findLatest_50 l1 l2 I Q := by
  show WP mX1_findLatest 286 Rf0 50 [some (.ref 50), some (.int l1), some (.int l2), none] [] I (qv Q)
  refine w_iload_n dX1_findLatest_50 rfl rfl ?_
  refine w_aload_n dX1_findLatest_51 rfl rfl ?_
  refine w_getR dX1_findLatest_52 fl_1_33 okC1 kd_50 (by decide) (by decide) rfl rf_50_0 ?_
  refine w_getI dX1_findLatest_55 fl_1_111 okC6 kd_24 (by decide) (by decide) rfl ?_
  refine w_icmp_ge (t := 128) dX1_findLatest_58 (by decide) (fun h => ?_) (fun h => ?_)
  · replace H := H.1 h
    refine w_less (ls' := [some (.ref 50), some (.int l1), none, none]) (by simp [lsub]) ?_
    exact H
  · replace H := H.2 h
    refine w_iload_n dX1_findLatest_61 rfl rfl ?_
    refine w_iload_n dX1_findLatest_62 rfl rfl ?_
    refine w_callS (st := []) (As := [.int l1, .int l2]) dX1_findLatest_63 ml_1_100 okX1_place rfl (Nat.le_of_ble_eq_true rfl) (by decide) (Nat.le_of_ble_eq_true rfl) (wc_i H (fun r2 I1 H => ?_))
    refine w_istore_n (ls' := [some (.ref 50), some (.int l1), some (.int l2), some (.int r2)]) dX1_findLatest_66 rfl (by decide) rfl rfl ?_
    refine w_iload_n dX1_findLatest_67 rfl rfl ?_
    refine w_iload_n dX1_findLatest_68 rfl rfl ?_
    refine w_callS (st := []) (As := [.int l1, .int l2]) dX1_findLatest_69 ml_1_114 okX1_isLast rfl (Nat.le_of_ble_eq_true rfl) (by decide) (Nat.le_of_ble_eq_true rfl) (wc_i H (fun r4 I3 H => ?_))
    refine w_if_eq (t := 122) dX1_findLatest_72 (by decide) (fun h => ?_) (fun h => ?_)
    · replace H := H.1 h
      skip
      exact H
    · replace H := H.2 h
      refine w_aload_n dX1_findLatest_75 rfl rfl ?_
      refine w_getR dX1_findLatest_76 fl_1_22 okC1 kd_50 (by decide) (by decide) rfl rf_50_5 ?_
      refine w_iload_n dX1_findLatest_79 rfl rfl ?_
      refine w_iald dX1_findLatest_80 kd_54 (by decide) H.1 ?_
      replace H := H.2
      refine w_aload_n dX1_findLatest_81 rfl rfl ?_
      refine w_getR dX1_findLatest_82 fl_1_25 okC1 kd_50 (by decide) (by decide) rfl rf_50_6 ?_
      refine w_iload_n dX1_findLatest_85 rfl rfl ?_
      refine w_iald dX1_findLatest_86 kd_55 (by decide) H.1 ?_
      replace H := H.2
      refine w_icmp_gt (t := 122) dX1_findLatest_87 (by decide) (fun h => ?_) (fun h => ?_)
      · replace H := H.1 h
        skip
        exact H
      · replace H := H.2 h
        refine w_aload_n dX1_findLatest_90 rfl rfl ?_
        refine w_iload_n dX1_findLatest_91 rfl rfl ?_
        refine w_iconst (v := 1) dX1_findLatest_92 (by decide) ?_
        refine w_iload_n dX1_findLatest_93 rfl rfl ?_
        refine w_ishl dX1_findLatest_94 ?_
        refine w_iconst (v := (-1)) dX1_findLatest_95 (by decide) ?_
        refine w_ixor dX1_findLatest_96 ?_
        refine w_iand dX1_findLatest_97 ?_
        refine w_aload_n dX1_findLatest_98 rfl rfl ?_
        refine w_getR dX1_findLatest_99 fl_1_41 okC1 kd_50 (by decide) (by decide) rfl rf_50_2 ?_
        refine w_iload_n dX1_findLatest_102 rfl rfl ?_
        refine w_aload_n dX1_findLatest_103 rfl rfl ?_
        refine w_getR dX1_findLatest_104 fl_1_25 okC1 kd_50 (by decide) (by decide) rfl rf_50_6 ?_
        refine w_iload_n dX1_findLatest_107 rfl rfl ?_
        refine w_iald dX1_findLatest_108 kd_55 (by decide) H.1 ?_
        replace H := H.2
        refine w_aload_n dX1_findLatest_109 rfl rfl ?_
        refine w_getR dX1_findLatest_110 fl_1_18 okC1 kd_50 (by decide) (by decide) rfl rf_50_4 ?_
        refine w_iload_n dX1_findLatest_113 rfl rfl ?_
        refine w_iald dX1_findLatest_114 kd_53 (by decide) H.1 ?_
        replace H := H.2
        refine w_isub dX1_findLatest_115 ?_
        refine w_callV (st := [.int (l1 &&& (((1 : Int32) <<< (l2 &&& 31)) ^^^ ((-1) : Int32))), .ref 50]) (As := [.int l2, .int ((I3 55 r2.toNatClampNeg) - (I3 53 l2.toNatClampNeg))]) dX1_findLatest_116 ml_1_133 okX4_departuresTo kd_45 (by decide) rfl rfl rfl (Nat.le_of_ble_eq_true rfl) (by decide) (Nat.le_of_ble_eq_true rfl) (wc_r H (fun r6 I5 H => ?_))
        obtain ⟨rfl, H⟩ := H
        refine w_callV (st := []) (As := [.int (l1 &&& (((1 : Int32) <<< (l2 &&& 31)) ^^^ ((-1) : Int32))), .ref 47]) dX1_findLatest_119 ml_1_136 okX1_allow kd_50 (by decide) rfl rfl rfl (Nat.le_of_ble_eq_true rfl) (by decide) (Nat.le_of_ble_eq_true rfl) (wc_v H (fun I7 H => ?_))
        skip
        exact H
set_option maxRecDepth 20000 in
theorem rX1_findLatest_122 {l1 l2 l3 : Int32} {I : MI} {Q : MI → Prop} (H : (LX1_findLatest_50 l1 (l2 + 1) I Q)) : LX1_findLatest_122 l1 l2 l3 I Q := by
  show WP mX1_findLatest 286 Rf0 122 [some (.ref 50), some (.int l1), some (.int l2), some (.int l3)] [] I (qv Q)
  refine w_iinc (v := l2 + 1) (ls' := [some (.ref 50), some (.int l1), some (.int (l2 + 1)), some (.int l3)]) dX1_findLatest_122 rfl rfl (by decide) rfl rfl ?_
  refine w_goto (t := 50) dX1_findLatest_125 (by decide) ?_
  refine w_less (ls' := [some (.ref 50), some (.int l1), some (.int (l2 + 1)), none]) (by simp [lsub]) ?_
  exact H
set_option maxRecDepth 20000 in
theorem rX1_findLatest_128 {l1 : Int32} {I : MI} {Q : MI → Prop} (H : (LX1_findLatest_33 (l1 + (-2)) I Q)) : LX1_findLatest_128 l1 I Q := by
  show WP mX1_findLatest 286 Rf0 128 [some (.ref 50), some (.int l1), none, none] [] I (qv Q)
  refine w_iinc (v := l1 + (-2)) (ls' := [some (.ref 50), some (.int (l1 + (-2))), none, none]) dX1_findLatest_128 rfl rfl (by decide) rfl rfl ?_
  refine w_goto (t := 33) dX1_findLatest_131 (by decide) ?_
  skip
  exact H
set_option maxRecDepth 20000 in
theorem rX1_findLatest {I : MI} {Q : MI → Prop} (H : (Wv mJ7_fill_53178 [.ref 55, .int (-1)] I (fun I1 => (Wr mX4_departuresTo [.ref 45, .int 0, .int (I1 50 8)] I1 (fun r3 I2 => r3 = 47 ∧ (Wv mX1_allow [.ref 50, .int (I1 50 7), .ref 47] I2 (fun I4 => (LX1_findLatest_33 (I4 50 7) I4 Q)))))))) : Wv mX1_findLatest [.ref 50] I Q := by
  show WP mX1_findLatest 286 Rf0 0 [some (.ref 50), none, none, none] [] I (qv Q)
  refine w_aload_n dX1_findLatest_0 rfl rfl ?_
  refine w_getR dX1_findLatest_1 fl_1_25 okC1 kd_50 (by decide) (by decide) rfl rf_50_6 ?_
  refine w_iconst (v := (-1)) dX1_findLatest_4 (by decide) ?_
  refine w_callS (st := []) (As := [.ref 55, .int (-1)]) dX1_findLatest_5 ml_1_81 okJ7_fill_53178 rfl (Nat.le_of_ble_eq_true rfl) (by decide) (Nat.le_of_ble_eq_true rfl) (wc_v H (fun I1 H => ?_))
  refine w_aload_n dX1_findLatest_8 rfl rfl ?_
  refine w_aload_n dX1_findLatest_9 rfl rfl ?_
  refine w_getI dX1_findLatest_10 fl_1_66 okC1 kd_50 (by decide) (by decide) rfl ?_
  refine w_aload_n dX1_findLatest_13 rfl rfl ?_
  refine w_getR dX1_findLatest_14 fl_1_41 okC1 kd_50 (by decide) (by decide) rfl rf_50_2 ?_
  refine w_iconst (v := 0) dX1_findLatest_17 (by decide) ?_
  refine w_aload_n dX1_findLatest_18 rfl rfl ?_
  refine w_getI dX1_findLatest_19 fl_1_29 okC1 kd_50 (by decide) (by decide) rfl ?_
  refine w_callV (st := [.int (I1 50 7), .ref 50]) (As := [.int 0, .int (I1 50 8)]) dX1_findLatest_22 ml_1_133 okX4_departuresTo kd_45 (by decide) rfl rfl rfl (Nat.le_of_ble_eq_true rfl) (by decide) (Nat.le_of_ble_eq_true rfl) (wc_r H (fun r3 I2 H => ?_))
  obtain ⟨rfl, H⟩ := H
  refine w_callV (st := []) (As := [.int (I1 50 7), .ref 47]) dX1_findLatest_25 ml_1_136 okX1_allow kd_50 (by decide) rfl rfl rfl (Nat.le_of_ble_eq_true rfl) (by decide) (Nat.le_of_ble_eq_true rfl) (wc_v H (fun I4 H => ?_))
  refine w_aload_n dX1_findLatest_28 rfl rfl ?_
  refine w_getI dX1_findLatest_29 fl_1_66 okC1 kd_50 (by decide) (by decide) rfl ?_
  refine w_istore_n (ls' := [some (.ref 50), some (.int (I4 50 7)), none, none]) dX1_findLatest_32 rfl (by decide) rfl rfl ?_
  skip
  exact H
theorem dX1_walk_0 : decode cX1_walk 0 = .ok (.iconst 0, 1) := by decide +kernel
theorem dX1_walk_1 : decode cX1_walk 1 = .ok (.istore_n 1, 1) := by decide +kernel
theorem dX1_walk_2 : decode cX1_walk 2 = .ok (.iconst 0, 1) := by decide +kernel
theorem dX1_walk_3 : decode cX1_walk 3 = .ok (.istore_n 2, 1) := by decide +kernel
theorem dX1_walk_4 : decode cX1_walk 4 = .ok (.aload_n 0, 1) := by decide +kernel
theorem dX1_walk_5 : decode cX1_walk 5 = .ok (.getfield 33, 3) := by decide +kernel
theorem dX1_walk_8 : decode cX1_walk 8 = .ok (.getfield 104, 3) := by decide +kernel
theorem dX1_walk_11 : decode cX1_walk 11 = .ok (.istore_n 3, 1) := by decide +kernel
theorem dX1_walk_12 : decode cX1_walk 12 = .ok (.iconst 0, 1) := by decide +kernel
theorem dX1_walk_13 : decode cX1_walk 13 = .ok (.istore 4, 2) := by decide +kernel
theorem dX1_walk_15 : decode cX1_walk 15 = .ok (.iload 4, 2) := by decide +kernel
theorem dX1_walk_17 : decode cX1_walk 17 = .ok (.bipush 10, 2) := by decide +kernel
theorem dX1_walk_19 : decode cX1_walk 19 = .ok (.if_icmp .ge 62, 3) := by decide +kernel
theorem dX1_walk_22 : decode cX1_walk 22 = .ok (.iload_n 1, 1) := by decide +kernel
theorem dX1_walk_23 : decode cX1_walk 23 = .ok (.aload_n 0, 1) := by decide +kernel
theorem dX1_walk_24 : decode cX1_walk 24 = .ok (.getfield 66, 3) := by decide +kernel
theorem dX1_walk_27 : decode cX1_walk 27 = .ok (.if_icmp .eq 54, 3) := by decide +kernel
theorem dX1_walk_30 : decode cX1_walk 30 = .ok (.aload_n 0, 1) := by decide +kernel
theorem dX1_walk_31 : decode cX1_walk 31 = .ok (.getfield 41, 3) := by decide +kernel
theorem dX1_walk_34 : decode cX1_walk 34 = .ok (.iload_n 2, 1) := by decide +kernel
theorem dX1_walk_35 : decode cX1_walk 35 = .ok (.iload_n 3, 1) := by decide +kernel
theorem dX1_walk_36 : decode cX1_walk 36 = .ok (.invokevirtual 122, 3) := by decide +kernel
theorem dX1_walk_39 : decode cX1_walk 39 = .ok (.astore 5, 2) := by decide +kernel
theorem dX1_walk_41 : decode cX1_walk 41 = .ok (.aload_n 0, 1) := by decide +kernel
theorem dX1_walk_42 : decode cX1_walk 42 = .ok (.iload_n 1, 1) := by decide +kernel
theorem dX1_walk_43 : decode cX1_walk 43 = .ok (.aload 5, 2) := by decide +kernel
theorem dX1_walk_45 : decode cX1_walk 45 = .ok (.invokevirtual 143, 3) := by decide +kernel
theorem dX1_walk_48 : decode cX1_walk 48 = .ok (.istore_n 2, 1) := by decide +kernel
theorem dX1_walk_49 : decode cX1_walk 49 = .ok (.aload 5, 2) := by decide +kernel
theorem dX1_walk_51 : decode cX1_walk 51 = .ok (.iload_n 2, 1) := by decide +kernel
theorem dX1_walk_52 : decode cX1_walk 52 = .ok (.iaload, 1) := by decide +kernel
theorem dX1_walk_53 : decode cX1_walk 53 = .ok (.aload_n 0, 1) := by decide +kernel
theorem dX1_walk_54 : decode cX1_walk 54 = .ok (.getfield 18, 3) := by decide +kernel
theorem dX1_walk_57 : decode cX1_walk 57 = .ok (.iload_n 2, 1) := by decide +kernel
theorem dX1_walk_58 : decode cX1_walk 58 = .ok (.iaload, 1) := by decide +kernel
theorem dX1_walk_59 : decode cX1_walk 59 = .ok (.iadd, 1) := by decide +kernel
theorem dX1_walk_60 : decode cX1_walk 60 = .ok (.istore_n 3, 1) := by decide +kernel
theorem dX1_walk_61 : decode cX1_walk 61 = .ok (.iload_n 1, 1) := by decide +kernel
theorem dX1_walk_62 : decode cX1_walk 62 = .ok (.iconst 1, 1) := by decide +kernel
theorem dX1_walk_63 : decode cX1_walk 63 = .ok (.iload_n 2, 1) := by decide +kernel
theorem dX1_walk_64 : decode cX1_walk 64 = .ok (.ishl, 1) := by decide +kernel
theorem dX1_walk_65 : decode cX1_walk 65 = .ok (.ior, 1) := by decide +kernel
theorem dX1_walk_66 : decode cX1_walk 66 = .ok (.istore_n 1, 1) := by decide +kernel
theorem dX1_walk_67 : decode cX1_walk 67 = .ok (.aload_n 0, 1) := by decide +kernel
theorem dX1_walk_68 : decode cX1_walk 68 = .ok (.getfield 12, 3) := by decide +kernel
theorem dX1_walk_71 : decode cX1_walk 71 = .ok (.iload_n 2, 1) := by decide +kernel
theorem dX1_walk_72 : decode cX1_walk 72 = .ok (.invokevirtual 147, 3) := by decide +kernel
theorem dX1_walk_75 : decode cX1_walk 75 = .ok (.iinc 4 1, 3) := by decide +kernel
theorem dX1_walk_78 : decode cX1_walk 78 = .ok (.goto (-63), 3) := by decide +kernel
theorem dX1_walk_81 : decode cX1_walk 81 = .ok (.return_, 1) := by decide +kernel
abbrev LX1_walk_15 (l1 l2 l3 l4 : Int32) (I : MI) (Q : MI → Prop) : Prop := WP mX1_walk 286 Rf0 15 [some (.ref 50), some (.int l1), some (.int l2), some (.int l3), some (.int l4), none] [] I (qv Q)
set_option maxRecDepth 20000 in
theorem rX1_walk_15 {l1 l2 l3 l4 : Int32} {I : MI} {Q : MI → Prop} (H : ((10 ≤ l4 → (Q I)) ∧ (¬ 10 ≤ l4 → ((l1 = (I 50 7) → (Q I)) ∧ (¬ l1 = (I 50 7) → (Wr mX4_arrivalsFrom [.ref 45, .int l2, .int l3] I (fun r2 I1 => r2 = 46 ∧ (Wi mX1_firstInTime [.ref 50, .int l1, .ref 46] I1 (fun r4 I3 => (vp_in r4 10 ∧ vp_in r4 10 ∧ Wv mX7_add [.ref 51, .int r4] I3 (fun I5 => (LX1_walk_15 (l1 ||| ((1 : Int32) <<< (r4 &&& 31))) r4 ((I3 46 r4.toNatClampNeg) + (I3 53 r4.toNatClampNeg)) (l4 + 1) I5 Q)))))))))))) : LX1_walk_15 l1 l2 l3 l4 I Q := by
  show WP mX1_walk 286 Rf0 15 [some (.ref 50), some (.int l1), some (.int l2), some (.int l3), some (.int l4), none] [] I (qv Q)
  refine w_iload dX1_walk_15 rfl ?_
  refine w_bipush (v := 10) dX1_walk_17 (by decide) ?_
  refine w_icmp_ge (t := 81) dX1_walk_19 (by decide) (fun h => ?_) (fun h => ?_)
  · replace H := H.1 h
    exact w_vret dX1_walk_81 rfl ⟨rfl, H⟩
  · replace H := H.2 h
    refine w_iload_n dX1_walk_22 rfl rfl ?_
    refine w_aload_n dX1_walk_23 rfl rfl ?_
    refine w_getI dX1_walk_24 fl_1_66 okC1 kd_50 (by decide) (by decide) rfl ?_
    refine w_icmp_eq (t := 81) dX1_walk_27 (by decide) (fun h => ?_) (fun h => ?_)
    · replace H := H.1 h
      exact w_vret dX1_walk_81 rfl ⟨rfl, H⟩
    · replace H := H.2 h
      refine w_aload_n dX1_walk_30 rfl rfl ?_
      refine w_getR dX1_walk_31 fl_1_41 okC1 kd_50 (by decide) (by decide) rfl rf_50_2 ?_
      refine w_iload_n dX1_walk_34 rfl rfl ?_
      refine w_iload_n dX1_walk_35 rfl rfl ?_
      refine w_callV (st := []) (As := [.int l2, .int l3]) dX1_walk_36 ml_1_122 okX4_arrivalsFrom kd_45 (by decide) rfl rfl rfl (Nat.le_of_ble_eq_true rfl) (by decide) (Nat.le_of_ble_eq_true rfl) (wc_r H (fun r2 I1 H => ?_))
      obtain ⟨rfl, H⟩ := H
      refine w_astore (ls' := [some (.ref 50), some (.int l1), some (.int l2), some (.int l3), some (.int l4), some (.ref 46)]) dX1_walk_39 (by decide) rfl rfl ?_
      refine w_aload_n dX1_walk_41 rfl rfl ?_
      refine w_iload_n dX1_walk_42 rfl rfl ?_
      refine w_aload dX1_walk_43 rfl ?_
      refine w_callV (st := []) (As := [.int l1, .ref 46]) dX1_walk_45 ml_1_143 okX1_firstInTime kd_50 (by decide) rfl rfl rfl (Nat.le_of_ble_eq_true rfl) (by decide) (Nat.le_of_ble_eq_true rfl) (wc_i H (fun r4 I3 H => ?_))
      refine w_istore_n (ls' := [some (.ref 50), some (.int l1), some (.int r4), some (.int l3), some (.int l4), some (.ref 46)]) dX1_walk_48 rfl (by decide) rfl rfl ?_
      refine w_aload dX1_walk_49 rfl ?_
      refine w_iload_n dX1_walk_51 rfl rfl ?_
      refine w_iald dX1_walk_52 kd_46 (by decide) H.1 ?_
      replace H := H.2
      refine w_aload_n dX1_walk_53 rfl rfl ?_
      refine w_getR dX1_walk_54 fl_1_18 okC1 kd_50 (by decide) (by decide) rfl rf_50_4 ?_
      refine w_iload_n dX1_walk_57 rfl rfl ?_
      refine w_iald dX1_walk_58 kd_53 (by decide) H.1 ?_
      replace H := H.2
      refine w_iadd dX1_walk_59 ?_
      refine w_istore_n (ls' := [some (.ref 50), some (.int l1), some (.int r4), some (.int ((I3 46 r4.toNatClampNeg) + (I3 53 r4.toNatClampNeg))), some (.int l4), some (.ref 46)]) dX1_walk_60 rfl (by decide) rfl rfl ?_
      refine w_iload_n dX1_walk_61 rfl rfl ?_
      refine w_iconst (v := 1) dX1_walk_62 (by decide) ?_
      refine w_iload_n dX1_walk_63 rfl rfl ?_
      refine w_ishl dX1_walk_64 ?_
      refine w_ior dX1_walk_65 ?_
      refine w_istore_n (ls' := [some (.ref 50), some (.int (l1 ||| ((1 : Int32) <<< (r4 &&& 31)))), some (.int r4), some (.int ((I3 46 r4.toNatClampNeg) + (I3 53 r4.toNatClampNeg))), some (.int l4), some (.ref 46)]) dX1_walk_66 rfl (by decide) rfl rfl ?_
      refine w_aload_n dX1_walk_67 rfl rfl ?_
      refine w_getR dX1_walk_68 fl_1_12 okC1 kd_50 (by decide) (by decide) rfl rf_50_3 ?_
      refine w_iload_n dX1_walk_71 rfl rfl ?_
      refine w_callV (st := []) (As := [.int r4]) dX1_walk_72 ml_1_147 okX7_add kd_51 (by decide) rfl rfl rfl (Nat.le_of_ble_eq_true rfl) (by decide) (Nat.le_of_ble_eq_true rfl) (wc_v H (fun I5 H => ?_))
      refine w_iinc (v := l4 + 1) (ls' := [some (.ref 50), some (.int (l1 ||| ((1 : Int32) <<< (r4 &&& 31)))), some (.int r4), some (.int ((I3 46 r4.toNatClampNeg) + (I3 53 r4.toNatClampNeg))), some (.int (l4 + 1)), some (.ref 46)]) dX1_walk_75 rfl rfl (by decide) rfl rfl ?_
      refine w_goto (t := 15) dX1_walk_78 (by decide) ?_
      refine w_less (ls' := [some (.ref 50), some (.int (l1 ||| ((1 : Int32) <<< (r4 &&& 31)))), some (.int r4), some (.int ((I3 46 r4.toNatClampNeg) + (I3 53 r4.toNatClampNeg))), some (.int (l4 + 1)), none]) (by simp [lsub]) ?_
      exact H
set_option maxRecDepth 20000 in
theorem rX1_walk {I : MI} {Q : MI → Prop} (H : (LX1_walk_15 0 0 (I 24 4) 0 I Q)) : Wv mX1_walk [.ref 50] I Q := by
  show WP mX1_walk 286 Rf0 0 [some (.ref 50), none, none, none, none, none] [] I (qv Q)
  refine w_iconst (v := 0) dX1_walk_0 (by decide) ?_
  refine w_istore_n (ls' := [some (.ref 50), some (.int 0), none, none, none, none]) dX1_walk_1 rfl (by decide) rfl rfl ?_
  refine w_iconst (v := 0) dX1_walk_2 (by decide) ?_
  refine w_istore_n (ls' := [some (.ref 50), some (.int 0), some (.int 0), none, none, none]) dX1_walk_3 rfl (by decide) rfl rfl ?_
  refine w_aload_n dX1_walk_4 rfl rfl ?_
  refine w_getR dX1_walk_5 fl_1_33 okC1 kd_50 (by decide) (by decide) rfl rf_50_0 ?_
  refine w_getI dX1_walk_8 fl_1_104 okC6 kd_24 (by decide) (by decide) rfl ?_
  refine w_istore_n (ls' := [some (.ref 50), some (.int 0), some (.int 0), some (.int (I 24 4)), none, none]) dX1_walk_11 rfl (by decide) rfl rfl ?_
  refine w_iconst (v := 0) dX1_walk_12 (by decide) ?_
  refine w_istore (ls' := [some (.ref 50), some (.int 0), some (.int 0), some (.int (I 24 4)), some (.int 0), none]) dX1_walk_13 (by decide) rfl rfl ?_
  skip
  exact H
theorem dX2_clear_0 : decode cX2_clear 0 = .ok (.aload_n 0, 1) := by decide +kernel
theorem dX2_clear_1 : decode cX2_clear 1 = .ok (.iconst 0, 1) := by decide +kernel
theorem dX2_clear_2 : decode cX2_clear 2 = .ok (.putfield 18, 3) := by decide +kernel
theorem dX2_clear_5 : decode cX2_clear 5 = .ok (.return_, 1) := by decide +kernel
set_option maxRecDepth 20000 in
theorem rX2_clear {I : MI} {Q : MI → Prop} (H : (∀ I1 : MI, I1 = up2 I 61 2 0 → Q I1)) : Wv mX2_clear [.ref 61] I Q := by
  show WP mX2_clear 286 Rf0 0 [some (.ref 61)] [] I (qv Q)
  refine w_aload_n dX2_clear_0 rfl rfl ?_
  refine w_iconst (v := 0) dX2_clear_1 (by decide) ?_
  refine w_putI dX2_clear_2 fl_2_18 okC2 kd_61 (by decide) (by decide) rfl rfl rfl (w_up fun I1 hI => ?_)
  replace H := H I1 hI
  exact w_vret dX2_clear_5 rfl ⟨rfl, H⟩
theorem dX4_arrivalsFrom_0 : decode cX4_arrivalsFrom 0 = .ok (.aload_n 0, 1) := by decide +kernel
theorem dX4_arrivalsFrom_1 : decode cX4_arrivalsFrom 1 = .ok (.getfield 9, 3) := by decide +kernel
theorem dX4_arrivalsFrom_4 : decode cX4_arrivalsFrom 4 = .ok (.ldc 26, 2) := by decide +kernel
theorem dX4_arrivalsFrom_6 : decode cX4_arrivalsFrom 6 = .ok (.invokestatic 27, 3) := by decide +kernel
theorem dX4_arrivalsFrom_9 : decode cX4_arrivalsFrom 9 = .ok (.aload_n 0, 1) := by decide +kernel
theorem dX4_arrivalsFrom_10 : decode cX4_arrivalsFrom 10 = .ok (.getfield 9, 3) := by decide +kernel
theorem dX4_arrivalsFrom_13 : decode cX4_arrivalsFrom 13 = .ok (.iload_n 1, 1) := by decide +kernel
theorem dX4_arrivalsFrom_14 : decode cX4_arrivalsFrom 14 = .ok (.iload_n 2, 1) := by decide +kernel
theorem dX4_arrivalsFrom_15 : decode cX4_arrivalsFrom 15 = .ok (.iastore, 1) := by decide +kernel
theorem dX4_arrivalsFrom_16 : decode cX4_arrivalsFrom 16 = .ok (.aload_n 0, 1) := by decide +kernel
theorem dX4_arrivalsFrom_17 : decode cX4_arrivalsFrom 17 = .ok (.iconst 0, 1) := by decide +kernel
theorem dX4_arrivalsFrom_18 : decode cX4_arrivalsFrom 18 = .ok (.invokevirtual 33, 3) := by decide +kernel
theorem dX4_arrivalsFrom_21 : decode cX4_arrivalsFrom 21 = .ok (.aload_n 0, 1) := by decide +kernel
theorem dX4_arrivalsFrom_22 : decode cX4_arrivalsFrom 22 = .ok (.getfield 9, 3) := by decide +kernel
theorem dX4_arrivalsFrom_25 : decode cX4_arrivalsFrom 25 = .ok (.areturn, 1) := by decide +kernel
set_option maxRecDepth 20000 in
theorem rX4_arrivalsFrom {a1 a2 : Int32} {I : MI} {Q : Nat → MI → Prop} (H : (Wv mJ7_fill_53178 [.ref 46, .int 2147483647] I (fun I1 => (vp_in a1 10 ∧ ∀ I2 : MI, I2 = up2 I1 46 a1.toNatClampNeg a2 → Wv mX4_sweepStreets [.ref 45, .int 0] I2 (fun I3 => (Q 46 I3)))))) : Wr mX4_arrivalsFrom [.ref 45, .int a1, .int a2] I Q := by
  show WP mX4_arrivalsFrom 286 Rf0 0 [some (.ref 45), some (.int a1), some (.int a2)] [] I (qr Q)
  refine w_aload_n dX4_arrivalsFrom_0 rfl rfl ?_
  refine w_getR dX4_arrivalsFrom_1 fl_4_9 okC4 kd_45 (by decide) (by decide) rfl rf_45_2 ?_
  refine w_ldc (v := 2147483647) dX4_arrivalsFrom_4 kl_4_26 ?_
  refine w_callS (st := []) (As := [.ref 46, .int 2147483647]) dX4_arrivalsFrom_6 ml_4_27 okJ7_fill_53178 rfl (Nat.le_of_ble_eq_true rfl) (by decide) (Nat.le_of_ble_eq_true rfl) (wc_v H (fun I1 H => ?_))
  refine w_aload_n dX4_arrivalsFrom_9 rfl rfl ?_
  refine w_getR dX4_arrivalsFrom_10 fl_4_9 okC4 kd_45 (by decide) (by decide) rfl rf_45_2 ?_
  refine w_iload_n dX4_arrivalsFrom_13 rfl rfl ?_
  refine w_iload_n dX4_arrivalsFrom_14 rfl rfl ?_
  refine w_iast dX4_arrivalsFrom_15 kd_46 (by decide) H.1 (w_up fun I2 hI => ?_)
  replace H := H.2 I2 hI
  refine w_aload_n dX4_arrivalsFrom_16 rfl rfl ?_
  refine w_iconst (v := 0) dX4_arrivalsFrom_17 (by decide) ?_
  refine w_callV (st := []) (As := [.int 0]) dX4_arrivalsFrom_18 ml_4_33 okX4_sweepStreets kd_45 (by decide) rfl rfl rfl (Nat.le_of_ble_eq_true rfl) (by decide) (Nat.le_of_ble_eq_true rfl) (wc_v H (fun I3 H => ?_))
  refine w_aload_n dX4_arrivalsFrom_21 rfl rfl ?_
  refine w_getR dX4_arrivalsFrom_22 fl_4_9 okC4 kd_45 (by decide) (by decide) rfl rf_45_2 ?_
  exact w_aret dX4_arrivalsFrom_25 rfl (Or.inr ⟨_, rfl⟩) ⟨_, rfl, H⟩
theorem dX4_sweepStreets_0 : decode cX4_sweepStreets 0 = .ok (.iconst 1, 1) := by decide +kernel
theorem dX4_sweepStreets_1 : decode cX4_sweepStreets 1 = .ok (.istore_n 2, 1) := by decide +kernel
theorem dX4_sweepStreets_2 : decode cX4_sweepStreets 2 = .ok (.iconst 0, 1) := by decide +kernel
theorem dX4_sweepStreets_3 : decode cX4_sweepStreets 3 = .ok (.istore_n 3, 1) := by decide +kernel
theorem dX4_sweepStreets_4 : decode cX4_sweepStreets 4 = .ok (.iload_n 3, 1) := by decide +kernel
theorem dX4_sweepStreets_5 : decode cX4_sweepStreets 5 = .ok (.bipush 10, 2) := by decide +kernel
theorem dX4_sweepStreets_7 : decode cX4_sweepStreets 7 = .ok (.if_icmp .ge 138, 3) := by decide +kernel
theorem dX4_sweepStreets_10 : decode cX4_sweepStreets 10 = .ok (.iload_n 2, 1) := by decide +kernel
theorem dX4_sweepStreets_11 : decode cX4_sweepStreets 11 = .ok (.ifCond .eq 134, 3) := by decide +kernel
theorem dX4_sweepStreets_14 : decode cX4_sweepStreets 14 = .ok (.iconst 0, 1) := by decide +kernel
theorem dX4_sweepStreets_15 : decode cX4_sweepStreets 15 = .ok (.istore_n 2, 1) := by decide +kernel
theorem dX4_sweepStreets_16 : decode cX4_sweepStreets 16 = .ok (.iconst 0, 1) := by decide +kernel
theorem dX4_sweepStreets_17 : decode cX4_sweepStreets 17 = .ok (.istore 4, 2) := by decide +kernel
theorem dX4_sweepStreets_19 : decode cX4_sweepStreets 19 = .ok (.iload 4, 2) := by decide +kernel
theorem dX4_sweepStreets_21 : decode cX4_sweepStreets 21 = .ok (.aload_n 0, 1) := by decide +kernel
theorem dX4_sweepStreets_22 : decode cX4_sweepStreets 22 = .ok (.getfield 18, 3) := by decide +kernel
theorem dX4_sweepStreets_25 : decode cX4_sweepStreets 25 = .ok (.getfield 37, 3) := by decide +kernel
theorem dX4_sweepStreets_28 : decode cX4_sweepStreets 28 = .ok (.if_icmp .ge 111, 3) := by decide +kernel
theorem dX4_sweepStreets_31 : decode cX4_sweepStreets 31 = .ok (.aload_n 0, 1) := by decide +kernel
theorem dX4_sweepStreets_32 : decode cX4_sweepStreets 32 = .ok (.getfield 18, 3) := by decide +kernel
theorem dX4_sweepStreets_35 : decode cX4_sweepStreets 35 = .ok (.getfield 43, 3) := by decide +kernel
theorem dX4_sweepStreets_38 : decode cX4_sweepStreets 38 = .ok (.iload 4, 2) := by decide +kernel
theorem dX4_sweepStreets_40 : decode cX4_sweepStreets 40 = .ok (.iaload, 1) := by decide +kernel
theorem dX4_sweepStreets_41 : decode cX4_sweepStreets 41 = .ok (.istore 5, 2) := by decide +kernel
theorem dX4_sweepStreets_43 : decode cX4_sweepStreets 43 = .ok (.aload_n 0, 1) := by decide +kernel
theorem dX4_sweepStreets_44 : decode cX4_sweepStreets 44 = .ok (.getfield 18, 3) := by decide +kernel
theorem dX4_sweepStreets_47 : decode cX4_sweepStreets 47 = .ok (.getfield 46, 3) := by decide +kernel
theorem dX4_sweepStreets_50 : decode cX4_sweepStreets 50 = .ok (.iload 4, 2) := by decide +kernel
theorem dX4_sweepStreets_52 : decode cX4_sweepStreets 52 = .ok (.iaload, 1) := by decide +kernel
theorem dX4_sweepStreets_53 : decode cX4_sweepStreets 53 = .ok (.istore 6, 2) := by decide +kernel
theorem dX4_sweepStreets_55 : decode cX4_sweepStreets 55 = .ok (.iload_n 1, 1) := by decide +kernel
theorem dX4_sweepStreets_56 : decode cX4_sweepStreets 56 = .ok (.ifCond .eq 16, 3) := by decide +kernel
theorem dX4_sweepStreets_59 : decode cX4_sweepStreets 59 = .ok (.aload_n 0, 1) := by decide +kernel
theorem dX4_sweepStreets_60 : decode cX4_sweepStreets 60 = .ok (.iload 4, 2) := by decide +kernel
theorem dX4_sweepStreets_62 : decode cX4_sweepStreets 62 = .ok (.iload 5, 2) := by decide +kernel
theorem dX4_sweepStreets_64 : decode cX4_sweepStreets 64 = .ok (.iload 6, 2) := by decide +kernel
theorem dX4_sweepStreets_66 : decode cX4_sweepStreets 66 = .ok (.invokevirtual 49, 3) := by decide +kernel
theorem dX4_sweepStreets_69 : decode cX4_sweepStreets 69 = .ok (.goto 13, 3) := by decide +kernel
theorem dX4_sweepStreets_72 : decode cX4_sweepStreets 72 = .ok (.aload_n 0, 1) := by decide +kernel
theorem dX4_sweepStreets_73 : decode cX4_sweepStreets 73 = .ok (.iload 4, 2) := by decide +kernel
theorem dX4_sweepStreets_75 : decode cX4_sweepStreets 75 = .ok (.iload 5, 2) := by decide +kernel
theorem dX4_sweepStreets_77 : decode cX4_sweepStreets 77 = .ok (.iload 6, 2) := by decide +kernel
theorem dX4_sweepStreets_79 : decode cX4_sweepStreets 79 = .ok (.invokevirtual 53, 3) := by decide +kernel
theorem dX4_sweepStreets_82 : decode cX4_sweepStreets 82 = .ok (.istore 7, 2) := by decide +kernel
theorem dX4_sweepStreets_84 : decode cX4_sweepStreets 84 = .ok (.iload_n 1, 1) := by decide +kernel
theorem dX4_sweepStreets_85 : decode cX4_sweepStreets 85 = .ok (.ifCond .eq 16, 3) := by decide +kernel
theorem dX4_sweepStreets_88 : decode cX4_sweepStreets 88 = .ok (.aload_n 0, 1) := by decide +kernel
theorem dX4_sweepStreets_89 : decode cX4_sweepStreets 89 = .ok (.iload 4, 2) := by decide +kernel
theorem dX4_sweepStreets_91 : decode cX4_sweepStreets 91 = .ok (.iload 6, 2) := by decide +kernel
theorem dX4_sweepStreets_93 : decode cX4_sweepStreets 93 = .ok (.iload 5, 2) := by decide +kernel
theorem dX4_sweepStreets_95 : decode cX4_sweepStreets 95 = .ok (.invokevirtual 49, 3) := by decide +kernel
theorem dX4_sweepStreets_98 : decode cX4_sweepStreets 98 = .ok (.goto 13, 3) := by decide +kernel
theorem dX4_sweepStreets_101 : decode cX4_sweepStreets 101 = .ok (.aload_n 0, 1) := by decide +kernel
theorem dX4_sweepStreets_102 : decode cX4_sweepStreets 102 = .ok (.iload 4, 2) := by decide +kernel
theorem dX4_sweepStreets_104 : decode cX4_sweepStreets 104 = .ok (.iload 6, 2) := by decide +kernel
theorem dX4_sweepStreets_106 : decode cX4_sweepStreets 106 = .ok (.iload 5, 2) := by decide +kernel
theorem dX4_sweepStreets_108 : decode cX4_sweepStreets 108 = .ok (.invokevirtual 53, 3) := by decide +kernel
theorem dX4_sweepStreets_111 : decode cX4_sweepStreets 111 = .ok (.istore 8, 2) := by decide +kernel
theorem dX4_sweepStreets_113 : decode cX4_sweepStreets 113 = .ok (.iload_n 2, 1) := by decide +kernel
theorem dX4_sweepStreets_114 : decode cX4_sweepStreets 114 = .ok (.ifCond .ne 13, 3) := by decide +kernel
theorem dX4_sweepStreets_117 : decode cX4_sweepStreets 117 = .ok (.iload 7, 2) := by decide +kernel
theorem dX4_sweepStreets_119 : decode cX4_sweepStreets 119 = .ok (.ifCond .ne 8, 3) := by decide +kernel
theorem dX4_sweepStreets_122 : decode cX4_sweepStreets 122 = .ok (.iload 8, 2) := by decide +kernel
theorem dX4_sweepStreets_124 : decode cX4_sweepStreets 124 = .ok (.ifCond .eq 7, 3) := by decide +kernel
theorem dX4_sweepStreets_127 : decode cX4_sweepStreets 127 = .ok (.iconst 1, 1) := by decide +kernel
theorem dX4_sweepStreets_128 : decode cX4_sweepStreets 128 = .ok (.goto 4, 3) := by decide +kernel
theorem dX4_sweepStreets_131 : decode cX4_sweepStreets 131 = .ok (.iconst 0, 1) := by decide +kernel
theorem dX4_sweepStreets_132 : decode cX4_sweepStreets 132 = .ok (.istore_n 2, 1) := by decide +kernel
theorem dX4_sweepStreets_133 : decode cX4_sweepStreets 133 = .ok (.iinc 4 1, 3) := by decide +kernel
theorem dX4_sweepStreets_136 : decode cX4_sweepStreets 136 = .ok (.goto (-117), 3) := by decide +kernel
theorem dX4_sweepStreets_139 : decode cX4_sweepStreets 139 = .ok (.iinc 3 1, 3) := by decide +kernel
theorem dX4_sweepStreets_142 : decode cX4_sweepStreets 142 = .ok (.goto (-138), 3) := by decide +kernel
theorem dX4_sweepStreets_145 : decode cX4_sweepStreets 145 = .ok (.return_, 1) := by decide +kernel
abbrev LX4_sweepStreets_4 (l1 l2 l3 : Int32) (I : MI) (Q : MI → Prop) : Prop := WP mX4_sweepStreets 286 Rf0 4 [some (.ref 45), some (.int l1), some (.int l2), some (.int l3), none, none, none, none, none] [] I (qv Q)
abbrev LX4_sweepStreets_19 (l1 l2 l3 l4 : Int32) (I : MI) (Q : MI → Prop) : Prop := WP mX4_sweepStreets 286 Rf0 19 [some (.ref 45), some (.int l1), some (.int l2), some (.int l3), some (.int l4), none, none, none, none] [] I (qv Q)
abbrev LX4_sweepStreets_82 (l1 l2 l3 l4 l5 l6 t0 : Int32) (I : MI) (Q : MI → Prop) : Prop := WP mX4_sweepStreets 286 Rf0 82 [some (.ref 45), some (.int l1), some (.int l2), some (.int l3), some (.int l4), some (.int l5), some (.int l6), none, none] [.int t0] I (qv Q)
abbrev LX4_sweepStreets_111 (l1 l2 l3 l4 l5 l6 l7 t0 : Int32) (I : MI) (Q : MI → Prop) : Prop := WP mX4_sweepStreets 286 Rf0 111 [some (.ref 45), some (.int l1), some (.int l2), some (.int l3), some (.int l4), some (.int l5), some (.int l6), some (.int l7), none] [.int t0] I (qv Q)
abbrev LX4_sweepStreets_127 (l1 l2 l3 l4 l5 l6 l7 l8 : Int32) (I : MI) (Q : MI → Prop) : Prop := WP mX4_sweepStreets 286 Rf0 127 [some (.ref 45), some (.int l1), some (.int l2), some (.int l3), some (.int l4), some (.int l5), some (.int l6), some (.int l7), some (.int l8)] [] I (qv Q)
abbrev LX4_sweepStreets_132 (l1 l2 l3 l4 l5 l6 l7 l8 t0 : Int32) (I : MI) (Q : MI → Prop) : Prop := WP mX4_sweepStreets 286 Rf0 132 [some (.ref 45), some (.int l1), some (.int l2), some (.int l3), some (.int l4), some (.int l5), some (.int l6), some (.int l7), some (.int l8)] [.int t0] I (qv Q)
set_option maxRecDepth 20000 in
theorem rX4_sweepStreets_4 {l1 l2 l3 : Int32} {I : MI} {Q : MI → Prop} (H : ((10 ≤ l3 → (Q I)) ∧ (¬ 10 ≤ l3 → ((l2 = 0 → (Q I)) ∧ (¬ l2 = 0 → (LX4_sweepStreets_19 l1 0 l3 0 I Q)))))) : LX4_sweepStreets_4 l1 l2 l3 I Q := by
  show WP mX4_sweepStreets 286 Rf0 4 [some (.ref 45), some (.int l1), some (.int l2), some (.int l3), none, none, none, none, none] [] I (qv Q)
  refine w_iload_n dX4_sweepStreets_4 rfl rfl ?_
  refine w_bipush (v := 10) dX4_sweepStreets_5 (by decide) ?_
  refine w_icmp_ge (t := 145) dX4_sweepStreets_7 (by decide) (fun h => ?_) (fun h => ?_)
  · replace H := H.1 h
    exact w_vret dX4_sweepStreets_145 rfl ⟨rfl, H⟩
  · replace H := H.2 h
    refine w_iload_n dX4_sweepStreets_10 rfl rfl ?_
    refine w_if_eq (t := 145) dX4_sweepStreets_11 (by decide) (fun h => ?_) (fun h => ?_)
    · replace H := H.1 h
      exact w_vret dX4_sweepStreets_145 rfl ⟨rfl, H⟩
    · replace H := H.2 h
      refine w_iconst (v := 0) dX4_sweepStreets_14 (by decide) ?_
      refine w_istore_n (ls' := [some (.ref 45), some (.int l1), some (.int 0), some (.int l3), none, none, none, none, none]) dX4_sweepStreets_15 rfl (by decide) rfl rfl ?_
      refine w_iconst (v := 0) dX4_sweepStreets_16 (by decide) ?_
      refine w_istore (ls' := [some (.ref 45), some (.int l1), some (.int 0), some (.int l3), some (.int 0), none, none, none, none]) dX4_sweepStreets_17 (by decide) rfl rfl ?_
      skip
      exact H
set_option maxRecDepth 20000 in
theorem rX4_sweepStreets_19 {l1 l2 l3 l4 : Int32} {I : MI} {Q : MI → Prop} (H : (((I 24 1) ≤ l4 → (LX4_sweepStreets_4 l1 l2 (l3 + 1) I Q)) ∧ (¬ (I 24 1) ≤ l4 → (vp_in l4 18 ∧ vp_in l4 18 ∧ (l1 = 0 → (Wi mX4_improveArrival [.ref 45, .int l4, .int (I 25 l4.toNatClampNeg), .int (I 26 l4.toNatClampNeg)] I (fun r2 I1 => (LX4_sweepStreets_82 l1 l2 l3 l4 (I 25 l4.toNatClampNeg) (I 26 l4.toNatClampNeg) r2 I1 Q)))) ∧ (¬ l1 = 0 → (Wi mX4_improveDeparture [.ref 45, .int l4, .int (I 25 l4.toNatClampNeg), .int (I 26 l4.toNatClampNeg)] I (fun r2 I1 => (LX4_sweepStreets_82 l1 l2 l3 l4 (I 25 l4.toNatClampNeg) (I 26 l4.toNatClampNeg) r2 I1 Q)))))))) : LX4_sweepStreets_19 l1 l2 l3 l4 I Q := by
  show WP mX4_sweepStreets 286 Rf0 19 [some (.ref 45), some (.int l1), some (.int l2), some (.int l3), some (.int l4), none, none, none, none] [] I (qv Q)
  refine w_iload dX4_sweepStreets_19 rfl ?_
  refine w_aload_n dX4_sweepStreets_21 rfl rfl ?_
  refine w_getR dX4_sweepStreets_22 fl_4_18 okC4 kd_45 (by decide) (by decide) rfl rf_45_0 ?_
  refine w_getI dX4_sweepStreets_25 fl_4_37 okC6 kd_24 (by decide) (by decide) rfl ?_
  refine w_icmp_ge (t := 139) dX4_sweepStreets_28 (by decide) (fun h => ?_) (fun h => ?_)
  · replace H := H.1 h
    refine w_iinc (v := l3 + 1) (ls' := [some (.ref 45), some (.int l1), some (.int l2), some (.int (l3 + 1)), some (.int l4), none, none, none, none]) dX4_sweepStreets_139 rfl rfl (by decide) rfl rfl ?_
    refine w_goto (t := 4) dX4_sweepStreets_142 (by decide) ?_
    refine w_less (ls' := [some (.ref 45), some (.int l1), some (.int l2), some (.int (l3 + 1)), none, none, none, none, none]) (by simp [lsub]) ?_
    exact H
  · replace H := H.2 h
    refine w_aload_n dX4_sweepStreets_31 rfl rfl ?_
    refine w_getR dX4_sweepStreets_32 fl_4_18 okC4 kd_45 (by decide) (by decide) rfl rf_45_0 ?_
    refine w_getR dX4_sweepStreets_35 fl_4_43 okC6 kd_24 (by decide) (by decide) rfl rf_24_7 ?_
    refine w_iload dX4_sweepStreets_38 rfl ?_
    refine w_iald dX4_sweepStreets_40 kd_25 (by decide) H.1 ?_
    replace H := H.2
    refine w_istore (ls' := [some (.ref 45), some (.int l1), some (.int l2), some (.int l3), some (.int l4), some (.int (I 25 l4.toNatClampNeg)), none, none, none]) dX4_sweepStreets_41 (by decide) rfl rfl ?_
    refine w_aload_n dX4_sweepStreets_43 rfl rfl ?_
    refine w_getR dX4_sweepStreets_44 fl_4_18 okC4 kd_45 (by decide) (by decide) rfl rf_45_0 ?_
    refine w_getR dX4_sweepStreets_47 fl_4_46 okC6 kd_24 (by decide) (by decide) rfl rf_24_8 ?_
    refine w_iload dX4_sweepStreets_50 rfl ?_
    refine w_iald dX4_sweepStreets_52 kd_26 (by decide) H.1 ?_
    replace H := H.2
    refine w_istore (ls' := [some (.ref 45), some (.int l1), some (.int l2), some (.int l3), some (.int l4), some (.int (I 25 l4.toNatClampNeg)), some (.int (I 26 l4.toNatClampNeg)), none, none]) dX4_sweepStreets_53 (by decide) rfl rfl ?_
    refine w_iload_n dX4_sweepStreets_55 rfl rfl ?_
    refine w_if_eq (t := 72) dX4_sweepStreets_56 (by decide) (fun h => ?_) (fun h => ?_)
    · replace H := H.1 h
      refine w_aload_n dX4_sweepStreets_72 rfl rfl ?_
      refine w_iload dX4_sweepStreets_73 rfl ?_
      refine w_iload dX4_sweepStreets_75 rfl ?_
      refine w_iload dX4_sweepStreets_77 rfl ?_
      refine w_callV (st := []) (As := [.int l4, .int (I 25 l4.toNatClampNeg), .int (I 26 l4.toNatClampNeg)]) dX4_sweepStreets_79 ml_4_53 okX4_improveArrival kd_45 (by decide) rfl rfl rfl (Nat.le_of_ble_eq_true rfl) (by decide) (Nat.le_of_ble_eq_true rfl) (wc_i H (fun r2 I1 H => ?_))
      skip
      exact H
    · replace H := H.2 h
      refine w_aload_n dX4_sweepStreets_59 rfl rfl ?_
      refine w_iload dX4_sweepStreets_60 rfl ?_
      refine w_iload dX4_sweepStreets_62 rfl ?_
      refine w_iload dX4_sweepStreets_64 rfl ?_
      refine w_callV (st := []) (As := [.int l4, .int (I 25 l4.toNatClampNeg), .int (I 26 l4.toNatClampNeg)]) dX4_sweepStreets_66 ml_4_49 okX4_improveDeparture kd_45 (by decide) rfl rfl rfl (Nat.le_of_ble_eq_true rfl) (by decide) (Nat.le_of_ble_eq_true rfl) (wc_i H (fun r2 I1 H => ?_))
      refine w_goto (t := 82) dX4_sweepStreets_69 (by decide) ?_
      skip
      exact H
set_option maxRecDepth 20000 in
theorem rX4_sweepStreets_82 {l1 l2 l3 l4 l5 l6 t0 : Int32} {I : MI} {Q : MI → Prop} (H : ((l1 = 0 → (Wi mX4_improveArrival [.ref 45, .int l4, .int l6, .int l5] I (fun r2 I1 => (LX4_sweepStreets_111 l1 l2 l3 l4 l5 l6 t0 r2 I1 Q)))) ∧ (¬ l1 = 0 → (Wi mX4_improveDeparture [.ref 45, .int l4, .int l6, .int l5] I (fun r2 I1 => (LX4_sweepStreets_111 l1 l2 l3 l4 l5 l6 t0 r2 I1 Q)))))) : LX4_sweepStreets_82 l1 l2 l3 l4 l5 l6 t0 I Q := by
  show WP mX4_sweepStreets 286 Rf0 82 [some (.ref 45), some (.int l1), some (.int l2), some (.int l3), some (.int l4), some (.int l5), some (.int l6), none, none] [.int t0] I (qv Q)
  refine w_istore (ls' := [some (.ref 45), some (.int l1), some (.int l2), some (.int l3), some (.int l4), some (.int l5), some (.int l6), some (.int t0), none]) dX4_sweepStreets_82 (by decide) rfl rfl ?_
  refine w_iload_n dX4_sweepStreets_84 rfl rfl ?_
  refine w_if_eq (t := 101) dX4_sweepStreets_85 (by decide) (fun h => ?_) (fun h => ?_)
  · replace H := H.1 h
    refine w_aload_n dX4_sweepStreets_101 rfl rfl ?_
    refine w_iload dX4_sweepStreets_102 rfl ?_
    refine w_iload dX4_sweepStreets_104 rfl ?_
    refine w_iload dX4_sweepStreets_106 rfl ?_
    refine w_callV (st := []) (As := [.int l4, .int l6, .int l5]) dX4_sweepStreets_108 ml_4_53 okX4_improveArrival kd_45 (by decide) rfl rfl rfl (Nat.le_of_ble_eq_true rfl) (by decide) (Nat.le_of_ble_eq_true rfl) (wc_i H (fun r2 I1 H => ?_))
    skip
    exact H
  · replace H := H.2 h
    refine w_aload_n dX4_sweepStreets_88 rfl rfl ?_
    refine w_iload dX4_sweepStreets_89 rfl ?_
    refine w_iload dX4_sweepStreets_91 rfl ?_
    refine w_iload dX4_sweepStreets_93 rfl ?_
    refine w_callV (st := []) (As := [.int l4, .int l6, .int l5]) dX4_sweepStreets_95 ml_4_49 okX4_improveDeparture kd_45 (by decide) rfl rfl rfl (Nat.le_of_ble_eq_true rfl) (by decide) (Nat.le_of_ble_eq_true rfl) (wc_i H (fun r2 I1 H => ?_))
    refine w_goto (t := 111) dX4_sweepStreets_98 (by decide) ?_
    skip
    exact H
set_option maxRecDepth 20000 in
theorem rX4_sweepStreets_111 {l1 l2 l3 l4 l5 l6 l7 t0 : Int32} {I : MI} {Q : MI → Prop} (H : ((¬ l2 = 0 → (LX4_sweepStreets_127 l1 l2 l3 l4 l5 l6 l7 t0 I Q)) ∧ (l2 = 0 → ((¬ l7 = 0 → (LX4_sweepStreets_127 l1 l2 l3 l4 l5 l6 l7 t0 I Q)) ∧ (l7 = 0 → ((t0 = 0 → (LX4_sweepStreets_132 l1 l2 l3 l4 l5 l6 l7 t0 0 I Q)) ∧ (¬ t0 = 0 → (LX4_sweepStreets_127 l1 l2 l3 l4 l5 l6 l7 t0 I Q)))))))) : LX4_sweepStreets_111 l1 l2 l3 l4 l5 l6 l7 t0 I Q := by
  show WP mX4_sweepStreets 286 Rf0 111 [some (.ref 45), some (.int l1), some (.int l2), some (.int l3), some (.int l4), some (.int l5), some (.int l6), some (.int l7), none] [.int t0] I (qv Q)
  refine w_istore (ls' := [some (.ref 45), some (.int l1), some (.int l2), some (.int l3), some (.int l4), some (.int l5), some (.int l6), some (.int l7), some (.int t0)]) dX4_sweepStreets_111 (by decide) rfl rfl ?_
  refine w_iload_n dX4_sweepStreets_113 rfl rfl ?_
  refine w_if_ne (t := 127) dX4_sweepStreets_114 (by decide) (fun h => ?_) (fun h => ?_)
  · replace H := H.1 h
    skip
    exact H
  · replace H := H.2 h
    refine w_iload dX4_sweepStreets_117 rfl ?_
    refine w_if_ne (t := 127) dX4_sweepStreets_119 (by decide) (fun h => ?_) (fun h => ?_)
    · replace H := H.1 h
      skip
      exact H
    · replace H := H.2 h
      refine w_iload dX4_sweepStreets_122 rfl ?_
      refine w_if_eq (t := 131) dX4_sweepStreets_124 (by decide) (fun h => ?_) (fun h => ?_)
      · replace H := H.1 h
        refine w_iconst (v := 0) dX4_sweepStreets_131 (by decide) ?_
        skip
        exact H
      · replace H := H.2 h
        skip
        exact H
set_option maxRecDepth 20000 in
theorem rX4_sweepStreets_127 {l1 l2 l3 l4 l5 l6 l7 l8 : Int32} {I : MI} {Q : MI → Prop} (H : (LX4_sweepStreets_132 l1 l2 l3 l4 l5 l6 l7 l8 1 I Q)) : LX4_sweepStreets_127 l1 l2 l3 l4 l5 l6 l7 l8 I Q := by
  show WP mX4_sweepStreets 286 Rf0 127 [some (.ref 45), some (.int l1), some (.int l2), some (.int l3), some (.int l4), some (.int l5), some (.int l6), some (.int l7), some (.int l8)] [] I (qv Q)
  refine w_iconst (v := 1) dX4_sweepStreets_127 (by decide) ?_
  refine w_goto (t := 132) dX4_sweepStreets_128 (by decide) ?_
  skip
  exact H
set_option maxRecDepth 20000 in
theorem rX4_sweepStreets_132 {l1 l2 l3 l4 l5 l6 l7 l8 t0 : Int32} {I : MI} {Q : MI → Prop} (H : (LX4_sweepStreets_19 l1 t0 l3 (l4 + 1) I Q)) : LX4_sweepStreets_132 l1 l2 l3 l4 l5 l6 l7 l8 t0 I Q := by
  show WP mX4_sweepStreets 286 Rf0 132 [some (.ref 45), some (.int l1), some (.int l2), some (.int l3), some (.int l4), some (.int l5), some (.int l6), some (.int l7), some (.int l8)] [.int t0] I (qv Q)
  refine w_istore_n (ls' := [some (.ref 45), some (.int l1), some (.int t0), some (.int l3), some (.int l4), some (.int l5), some (.int l6), some (.int l7), some (.int l8)]) dX4_sweepStreets_132 rfl (by decide) rfl rfl ?_
  refine w_iinc (v := l4 + 1) (ls' := [some (.ref 45), some (.int l1), some (.int t0), some (.int l3), some (.int (l4 + 1)), some (.int l5), some (.int l6), some (.int l7), some (.int l8)]) dX4_sweepStreets_133 rfl rfl (by decide) rfl rfl ?_
  refine w_goto (t := 19) dX4_sweepStreets_136 (by decide) ?_
  refine w_less (ls' := [some (.ref 45), some (.int l1), some (.int t0), some (.int l3), some (.int (l4 + 1)), none, none, none, none]) (by simp [lsub]) ?_
  exact H
set_option maxRecDepth 20000 in
theorem rX4_sweepStreets {a1 : Int32} {I : MI} {Q : MI → Prop} (H : (LX4_sweepStreets_4 a1 1 0 I Q)) : Wv mX4_sweepStreets [.ref 45, .int a1] I Q := by
  show WP mX4_sweepStreets 286 Rf0 0 [some (.ref 45), some (.int a1), none, none, none, none, none, none, none] [] I (qv Q)
  refine w_iconst (v := 1) dX4_sweepStreets_0 (by decide) ?_
  refine w_istore_n (ls' := [some (.ref 45), some (.int a1), some (.int 1), none, none, none, none, none, none]) dX4_sweepStreets_1 rfl (by decide) rfl rfl ?_
  refine w_iconst (v := 0) dX4_sweepStreets_2 (by decide) ?_
  refine w_istore_n (ls' := [some (.ref 45), some (.int a1), some (.int 1), some (.int 0), none, none, none, none, none]) dX4_sweepStreets_3 rfl (by decide) rfl rfl ?_
  skip
  exact H
theorem dX4_improveArrival_0 : decode cX4_improveArrival 0 = .ok (.aload_n 0, 1) := by decide +kernel
theorem dX4_improveArrival_1 : decode cX4_improveArrival 1 = .ok (.getfield 9, 3) := by decide +kernel
theorem dX4_improveArrival_4 : decode cX4_improveArrival 4 = .ok (.iload_n 2, 1) := by decide +kernel
theorem dX4_improveArrival_5 : decode cX4_improveArrival 5 = .ok (.iaload, 1) := by decide +kernel
theorem dX4_improveArrival_6 : decode cX4_improveArrival 6 = .ok (.istore 4, 2) := by decide +kernel
theorem dX4_improveArrival_8 : decode cX4_improveArrival 8 = .ok (.aload_n 0, 1) := by decide +kernel
theorem dX4_improveArrival_9 : decode cX4_improveArrival 9 = .ok (.getfield 22, 3) := by decide +kernel
theorem dX4_improveArrival_12 : decode cX4_improveArrival 12 = .ok (.getfield 56, 3) := by decide +kernel
theorem dX4_improveArrival_15 : decode cX4_improveArrival 15 = .ok (.iload_n 1, 1) := by decide +kernel
theorem dX4_improveArrival_16 : decode cX4_improveArrival 16 = .ok (.iaload, 1) := by decide +kernel
theorem dX4_improveArrival_17 : decode cX4_improveArrival 17 = .ok (.istore 5, 2) := by decide +kernel
theorem dX4_improveArrival_19 : decode cX4_improveArrival 19 = .ok (.iload 4, 2) := by decide +kernel
theorem dX4_improveArrival_21 : decode cX4_improveArrival 21 = .ok (.ldc 26, 2) := by decide +kernel
theorem dX4_improveArrival_23 : decode cX4_improveArrival 23 = .ok (.if_icmp .eq 15, 3) := by decide +kernel
theorem dX4_improveArrival_26 : decode cX4_improveArrival 26 = .ok (.iload 5, 2) := by decide +kernel
theorem dX4_improveArrival_28 : decode cX4_improveArrival 28 = .ok (.ifCond .eq 12, 3) := by decide +kernel
theorem dX4_improveArrival_31 : decode cX4_improveArrival 31 = .ok (.iload 4, 2) := by decide +kernel
theorem dX4_improveArrival_33 : decode cX4_improveArrival 33 = .ok (.iload 5, 2) := by decide +kernel
theorem dX4_improveArrival_35 : decode cX4_improveArrival 35 = .ok (.if_icmp .lt 5, 3) := by decide +kernel
theorem dX4_improveArrival_38 : decode cX4_improveArrival 38 = .ok (.iconst 0, 1) := by decide +kernel
theorem dX4_improveArrival_39 : decode cX4_improveArrival 39 = .ok (.ireturn, 1) := by decide +kernel
theorem dX4_improveArrival_40 : decode cX4_improveArrival 40 = .ok (.aload_n 0, 1) := by decide +kernel
theorem dX4_improveArrival_41 : decode cX4_improveArrival 41 = .ok (.getfield 22, 3) := by decide +kernel
theorem dX4_improveArrival_44 : decode cX4_improveArrival 44 = .ok (.getfield 61, 3) := by decide +kernel
theorem dX4_improveArrival_47 : decode cX4_improveArrival 47 = .ok (.iload_n 1, 1) := by decide +kernel
theorem dX4_improveArrival_48 : decode cX4_improveArrival 48 = .ok (.iaload, 1) := by decide +kernel
theorem dX4_improveArrival_49 : decode cX4_improveArrival 49 = .ok (.istore 6, 2) := by decide +kernel
theorem dX4_improveArrival_51 : decode cX4_improveArrival 51 = .ok (.iload 4, 2) := by decide +kernel
theorem dX4_improveArrival_53 : decode cX4_improveArrival 53 = .ok (.iload 6, 2) := by decide +kernel
theorem dX4_improveArrival_55 : decode cX4_improveArrival 55 = .ok (.if_icmp .ge 8, 3) := by decide +kernel
theorem dX4_improveArrival_58 : decode cX4_improveArrival 58 = .ok (.iload 6, 2) := by decide +kernel
theorem dX4_improveArrival_60 : decode cX4_improveArrival 60 = .ok (.goto 5, 3) := by decide +kernel
theorem dX4_improveArrival_63 : decode cX4_improveArrival 63 = .ok (.iload 4, 2) := by decide +kernel
theorem dX4_improveArrival_65 : decode cX4_improveArrival 65 = .ok (.aload_n 0, 1) := by decide +kernel
theorem dX4_improveArrival_66 : decode cX4_improveArrival 66 = .ok (.getfield 18, 3) := by decide +kernel
theorem dX4_improveArrival_69 : decode cX4_improveArrival 69 = .ok (.getfield 64, 3) := by decide +kernel
theorem dX4_improveArrival_72 : decode cX4_improveArrival 72 = .ok (.iload_n 1, 1) := by decide +kernel
theorem dX4_improveArrival_73 : decode cX4_improveArrival 73 = .ok (.iaload, 1) := by decide +kernel
theorem dX4_improveArrival_74 : decode cX4_improveArrival 74 = .ok (.iadd, 1) := by decide +kernel
theorem dX4_improveArrival_75 : decode cX4_improveArrival 75 = .ok (.istore 7, 2) := by decide +kernel
theorem dX4_improveArrival_77 : decode cX4_improveArrival 77 = .ok (.iload 7, 2) := by decide +kernel
theorem dX4_improveArrival_79 : decode cX4_improveArrival 79 = .ok (.aload_n 0, 1) := by decide +kernel
theorem dX4_improveArrival_80 : decode cX4_improveArrival 80 = .ok (.getfield 9, 3) := by decide +kernel
theorem dX4_improveArrival_83 : decode cX4_improveArrival 83 = .ok (.iload_n 3, 1) := by decide +kernel
theorem dX4_improveArrival_84 : decode cX4_improveArrival 84 = .ok (.iaload, 1) := by decide +kernel
theorem dX4_improveArrival_85 : decode cX4_improveArrival 85 = .ok (.if_icmp .lt 5, 3) := by decide +kernel
theorem dX4_improveArrival_88 : decode cX4_improveArrival 88 = .ok (.iconst 0, 1) := by decide +kernel
theorem dX4_improveArrival_89 : decode cX4_improveArrival 89 = .ok (.ireturn, 1) := by decide +kernel
theorem dX4_improveArrival_90 : decode cX4_improveArrival 90 = .ok (.aload_n 0, 1) := by decide +kernel
theorem dX4_improveArrival_91 : decode cX4_improveArrival 91 = .ok (.getfield 9, 3) := by decide +kernel
theorem dX4_improveArrival_94 : decode cX4_improveArrival 94 = .ok (.iload_n 3, 1) := by decide +kernel
theorem dX4_improveArrival_95 : decode cX4_improveArrival 95 = .ok (.iload 7, 2) := by decide +kernel
theorem dX4_improveArrival_97 : decode cX4_improveArrival 97 = .ok (.iastore, 1) := by decide +kernel
theorem dX4_improveArrival_98 : decode cX4_improveArrival 98 = .ok (.iconst 1, 1) := by decide +kernel
theorem dX4_improveArrival_99 : decode cX4_improveArrival 99 = .ok (.ireturn, 1) := by decide +kernel
abbrev LX4_improveArrival_40 (l1 l2 l3 l4 l5 : Int32) (I : MI) (Q : Int32 → MI → Prop) : Prop := WP mX4_improveArrival 286 Rf0 40 [some (.ref 45), some (.int l1), some (.int l2), some (.int l3), some (.int l4), some (.int l5), none, none] [] I (qi Q)
abbrev LX4_improveArrival_65 (l1 l2 l3 l4 l5 l6 t0 : Int32) (I : MI) (Q : Int32 → MI → Prop) : Prop := WP mX4_improveArrival 286 Rf0 65 [some (.ref 45), some (.int l1), some (.int l2), some (.int l3), some (.int l4), some (.int l5), some (.int l6), none] [.int t0] I (qi Q)
set_option maxRecDepth 20000 in
theorem rX4_improveArrival_40 {l1 l2 l3 l4 l5 : Int32} {I : MI} {Q : Int32 → MI → Prop} (H : (vp_in l1 18 ∧ ((I 33 l1.toNatClampNeg) ≤ l4 → (LX4_improveArrival_65 l1 l2 l3 l4 l5 (I 33 l1.toNatClampNeg) l4 I Q)) ∧ (¬ (I 33 l1.toNatClampNeg) ≤ l4 → (LX4_improveArrival_65 l1 l2 l3 l4 l5 (I 33 l1.toNatClampNeg) (I 33 l1.toNatClampNeg) I Q)))) : LX4_improveArrival_40 l1 l2 l3 l4 l5 I Q := by
  show WP mX4_improveArrival 286 Rf0 40 [some (.ref 45), some (.int l1), some (.int l2), some (.int l3), some (.int l4), some (.int l5), none, none] [] I (qi Q)
  refine w_aload_n dX4_improveArrival_40 rfl rfl ?_
  refine w_getR dX4_improveArrival_41 fl_4_22 okC4 kd_45 (by decide) (by decide) rfl rf_45_1 ?_
  refine w_getR dX4_improveArrival_44 fl_4_61 okC8 kd_30 (by decide) (by decide) rfl rf_30_4 ?_
  refine w_iload_n dX4_improveArrival_47 rfl rfl ?_
  refine w_iald dX4_improveArrival_48 kd_33 (by decide) H.1 ?_
  replace H := H.2
  refine w_istore (ls' := [some (.ref 45), some (.int l1), some (.int l2), some (.int l3), some (.int l4), some (.int l5), some (.int (I 33 l1.toNatClampNeg)), none]) dX4_improveArrival_49 (by decide) rfl rfl ?_
  refine w_iload dX4_improveArrival_51 rfl ?_
  refine w_iload dX4_improveArrival_53 rfl ?_
  refine w_icmp_ge (t := 63) dX4_improveArrival_55 (by decide) (fun h => ?_) (fun h => ?_)
  · replace H := H.1 h
    refine w_iload dX4_improveArrival_63 rfl ?_
    skip
    exact H
  · replace H := H.2 h
    refine w_iload dX4_improveArrival_58 rfl ?_
    refine w_goto (t := 65) dX4_improveArrival_60 (by decide) ?_
    skip
    exact H
set_option maxRecDepth 20000 in
theorem rX4_improveArrival_65 {l1 l2 l3 l4 l5 l6 t0 : Int32} {I : MI} {Q : Int32 → MI → Prop} (H : (vp_in l1 18 ∧ vp_in l3 10 ∧ ((t0 + (I 27 l1.toNatClampNeg)) < (I 46 l3.toNatClampNeg) → (vp_in l3 10 ∧ ∀ I1 : MI, I1 = up2 I 46 l3.toNatClampNeg (t0 + (I 27 l1.toNatClampNeg)) → Q 1 I1)) ∧ (¬ (t0 + (I 27 l1.toNatClampNeg)) < (I 46 l3.toNatClampNeg) → (Q 0 I)))) : LX4_improveArrival_65 l1 l2 l3 l4 l5 l6 t0 I Q := by
  show WP mX4_improveArrival 286 Rf0 65 [some (.ref 45), some (.int l1), some (.int l2), some (.int l3), some (.int l4), some (.int l5), some (.int l6), none] [.int t0] I (qi Q)
  refine w_aload_n dX4_improveArrival_65 rfl rfl ?_
  refine w_getR dX4_improveArrival_66 fl_4_18 okC4 kd_45 (by decide) (by decide) rfl rf_45_0 ?_
  refine w_getR dX4_improveArrival_69 fl_4_64 okC6 kd_24 (by decide) (by decide) rfl rf_24_9 ?_
  refine w_iload_n dX4_improveArrival_72 rfl rfl ?_
  refine w_iald dX4_improveArrival_73 kd_27 (by decide) H.1 ?_
  replace H := H.2
  refine w_iadd dX4_improveArrival_74 ?_
  refine w_istore (ls' := [some (.ref 45), some (.int l1), some (.int l2), some (.int l3), some (.int l4), some (.int l5), some (.int l6), some (.int (t0 + (I 27 l1.toNatClampNeg)))]) dX4_improveArrival_75 (by decide) rfl rfl ?_
  refine w_iload dX4_improveArrival_77 rfl ?_
  refine w_aload_n dX4_improveArrival_79 rfl rfl ?_
  refine w_getR dX4_improveArrival_80 fl_4_9 okC4 kd_45 (by decide) (by decide) rfl rf_45_2 ?_
  refine w_iload_n dX4_improveArrival_83 rfl rfl ?_
  refine w_iald dX4_improveArrival_84 kd_46 (by decide) H.1 ?_
  replace H := H.2
  refine w_icmp_lt (t := 90) dX4_improveArrival_85 (by decide) (fun h => ?_) (fun h => ?_)
  · replace H := H.1 h
    refine w_aload_n dX4_improveArrival_90 rfl rfl ?_
    refine w_getR dX4_improveArrival_91 fl_4_9 okC4 kd_45 (by decide) (by decide) rfl rf_45_2 ?_
    refine w_iload_n dX4_improveArrival_94 rfl rfl ?_
    refine w_iload dX4_improveArrival_95 rfl ?_
    refine w_iast dX4_improveArrival_97 kd_46 (by decide) H.1 (w_up fun I1 hI => ?_)
    replace H := H.2 I1 hI
    refine w_iconst (v := 1) dX4_improveArrival_98 (by decide) ?_
    exact w_zret dX4_improveArrival_99 rfl rfl ⟨_, rfl, H⟩
  · replace H := H.2 h
    refine w_iconst (v := 0) dX4_improveArrival_88 (by decide) ?_
    exact w_zret dX4_improveArrival_89 rfl rfl ⟨_, rfl, H⟩
set_option maxRecDepth 20000 in
theorem rX4_improveArrival {a1 a2 a3 : Int32} {I : MI} {Q : Int32 → MI → Prop} (H : (vp_in a2 10 ∧ vp_in a1 18 ∧ ((I 46 a2.toNatClampNeg) = 2147483647 → (Q 0 I)) ∧ (¬ (I 46 a2.toNatClampNeg) = 2147483647 → (((I 34 a1.toNatClampNeg) = 0 → (LX4_improveArrival_40 a1 a2 a3 (I 46 a2.toNatClampNeg) (I 34 a1.toNatClampNeg) I Q)) ∧ (¬ (I 34 a1.toNatClampNeg) = 0 → (((I 46 a2.toNatClampNeg) < (I 34 a1.toNatClampNeg) → (LX4_improveArrival_40 a1 a2 a3 (I 46 a2.toNatClampNeg) (I 34 a1.toNatClampNeg) I Q)) ∧ (¬ (I 46 a2.toNatClampNeg) < (I 34 a1.toNatClampNeg) → (Q 0 I)))))))) : Wi mX4_improveArrival [.ref 45, .int a1, .int a2, .int a3] I Q := by
  show WP mX4_improveArrival 286 Rf0 0 [some (.ref 45), some (.int a1), some (.int a2), some (.int a3), none, none, none, none] [] I (qi Q)
  refine w_aload_n dX4_improveArrival_0 rfl rfl ?_
  refine w_getR dX4_improveArrival_1 fl_4_9 okC4 kd_45 (by decide) (by decide) rfl rf_45_2 ?_
  refine w_iload_n dX4_improveArrival_4 rfl rfl ?_
  refine w_iald dX4_improveArrival_5 kd_46 (by decide) H.1 ?_
  replace H := H.2
  refine w_istore (ls' := [some (.ref 45), some (.int a1), some (.int a2), some (.int a3), some (.int (I 46 a2.toNatClampNeg)), none, none, none]) dX4_improveArrival_6 (by decide) rfl rfl ?_
  refine w_aload_n dX4_improveArrival_8 rfl rfl ?_
  refine w_getR dX4_improveArrival_9 fl_4_22 okC4 kd_45 (by decide) (by decide) rfl rf_45_1 ?_
  refine w_getR dX4_improveArrival_12 fl_4_56 okC8 kd_30 (by decide) (by decide) rfl rf_30_5 ?_
  refine w_iload_n dX4_improveArrival_15 rfl rfl ?_
  refine w_iald dX4_improveArrival_16 kd_34 (by decide) H.1 ?_
  replace H := H.2
  refine w_istore (ls' := [some (.ref 45), some (.int a1), some (.int a2), some (.int a3), some (.int (I 46 a2.toNatClampNeg)), some (.int (I 34 a1.toNatClampNeg)), none, none]) dX4_improveArrival_17 (by decide) rfl rfl ?_
  refine w_iload dX4_improveArrival_19 rfl ?_
  refine w_ldc (v := 2147483647) dX4_improveArrival_21 kl_4_26 ?_
  refine w_icmp_eq (t := 38) dX4_improveArrival_23 (by decide) (fun h => ?_) (fun h => ?_)
  · replace H := H.1 h
    refine w_iconst (v := 0) dX4_improveArrival_38 (by decide) ?_
    exact w_zret dX4_improveArrival_39 rfl rfl ⟨_, rfl, H⟩
  · replace H := H.2 h
    refine w_iload dX4_improveArrival_26 rfl ?_
    refine w_if_eq (t := 40) dX4_improveArrival_28 (by decide) (fun h => ?_) (fun h => ?_)
    · replace H := H.1 h
      skip
      exact H
    · replace H := H.2 h
      refine w_iload dX4_improveArrival_31 rfl ?_
      refine w_iload dX4_improveArrival_33 rfl ?_
      refine w_icmp_lt (t := 40) dX4_improveArrival_35 (by decide) (fun h => ?_) (fun h => ?_)
      · replace H := H.1 h
        skip
        exact H
      · replace H := H.2 h
        refine w_iconst (v := 0) dX4_improveArrival_38 (by decide) ?_
        exact w_zret dX4_improveArrival_39 rfl rfl ⟨_, rfl, H⟩
theorem dX4_departuresTo_0 : decode cX4_departuresTo 0 = .ok (.aload_n 0, 1) := by decide +kernel
theorem dX4_departuresTo_1 : decode cX4_departuresTo 1 = .ok (.getfield 15, 3) := by decide +kernel
theorem dX4_departuresTo_4 : decode cX4_departuresTo 4 = .ok (.iconst (-1), 1) := by decide +kernel
theorem dX4_departuresTo_5 : decode cX4_departuresTo 5 = .ok (.invokestatic 27, 3) := by decide +kernel
theorem dX4_departuresTo_8 : decode cX4_departuresTo 8 = .ok (.aload_n 0, 1) := by decide +kernel
theorem dX4_departuresTo_9 : decode cX4_departuresTo 9 = .ok (.getfield 15, 3) := by decide +kernel
theorem dX4_departuresTo_12 : decode cX4_departuresTo 12 = .ok (.iload_n 1, 1) := by decide +kernel
theorem dX4_departuresTo_13 : decode cX4_departuresTo 13 = .ok (.iload_n 2, 1) := by decide +kernel
theorem dX4_departuresTo_14 : decode cX4_departuresTo 14 = .ok (.iastore, 1) := by decide +kernel
theorem dX4_departuresTo_15 : decode cX4_departuresTo 15 = .ok (.aload_n 0, 1) := by decide +kernel
theorem dX4_departuresTo_16 : decode cX4_departuresTo 16 = .ok (.iconst 1, 1) := by decide +kernel
theorem dX4_departuresTo_17 : decode cX4_departuresTo 17 = .ok (.invokevirtual 33, 3) := by decide +kernel
theorem dX4_departuresTo_20 : decode cX4_departuresTo 20 = .ok (.aload_n 0, 1) := by decide +kernel
theorem dX4_departuresTo_21 : decode cX4_departuresTo 21 = .ok (.getfield 15, 3) := by decide +kernel
theorem dX4_departuresTo_24 : decode cX4_departuresTo 24 = .ok (.areturn, 1) := by decide +kernel
set_option maxRecDepth 20000 in
theorem rX4_departuresTo {a1 a2 : Int32} {I : MI} {Q : Nat → MI → Prop} (H : (Wv mJ7_fill_53178 [.ref 47, .int (-1)] I (fun I1 => (vp_in a1 10 ∧ ∀ I2 : MI, I2 = up2 I1 47 a1.toNatClampNeg a2 → Wv mX4_sweepStreets [.ref 45, .int 1] I2 (fun I3 => (Q 47 I3)))))) : Wr mX4_departuresTo [.ref 45, .int a1, .int a2] I Q := by
  show WP mX4_departuresTo 286 Rf0 0 [some (.ref 45), some (.int a1), some (.int a2)] [] I (qr Q)
  refine w_aload_n dX4_departuresTo_0 rfl rfl ?_
  refine w_getR dX4_departuresTo_1 fl_4_15 okC4 kd_45 (by decide) (by decide) rfl rf_45_3 ?_
  refine w_iconst (v := (-1)) dX4_departuresTo_4 (by decide) ?_
  refine w_callS (st := []) (As := [.ref 47, .int (-1)]) dX4_departuresTo_5 ml_4_27 okJ7_fill_53178 rfl (Nat.le_of_ble_eq_true rfl) (by decide) (Nat.le_of_ble_eq_true rfl) (wc_v H (fun I1 H => ?_))
  refine w_aload_n dX4_departuresTo_8 rfl rfl ?_
  refine w_getR dX4_departuresTo_9 fl_4_15 okC4 kd_45 (by decide) (by decide) rfl rf_45_3 ?_
  refine w_iload_n dX4_departuresTo_12 rfl rfl ?_
  refine w_iload_n dX4_departuresTo_13 rfl rfl ?_
  refine w_iast dX4_departuresTo_14 kd_47 (by decide) H.1 (w_up fun I2 hI => ?_)
  replace H := H.2 I2 hI
  refine w_aload_n dX4_departuresTo_15 rfl rfl ?_
  refine w_iconst (v := 1) dX4_departuresTo_16 (by decide) ?_
  refine w_callV (st := []) (As := [.int 1]) dX4_departuresTo_17 ml_4_33 okX4_sweepStreets kd_45 (by decide) rfl rfl rfl (Nat.le_of_ble_eq_true rfl) (by decide) (Nat.le_of_ble_eq_true rfl) (wc_v H (fun I3 H => ?_))
  refine w_aload_n dX4_departuresTo_20 rfl rfl ?_
  refine w_getR dX4_departuresTo_21 fl_4_15 okC4 kd_45 (by decide) (by decide) rfl rf_45_3 ?_
  exact w_aret dX4_departuresTo_24 rfl (Or.inr ⟨_, rfl⟩) ⟨_, rfl, H⟩
theorem dX4_improveDeparture_0 : decode cX4_improveDeparture 0 = .ok (.aload_n 0, 1) := by decide +kernel
theorem dX4_improveDeparture_1 : decode cX4_improveDeparture 1 = .ok (.getfield 15, 3) := by decide +kernel
theorem dX4_improveDeparture_4 : decode cX4_improveDeparture 4 = .ok (.iload_n 3, 1) := by decide +kernel
theorem dX4_improveDeparture_5 : decode cX4_improveDeparture 5 = .ok (.iaload, 1) := by decide +kernel
theorem dX4_improveDeparture_6 : decode cX4_improveDeparture 6 = .ok (.aload_n 0, 1) := by decide +kernel
theorem dX4_improveDeparture_7 : decode cX4_improveDeparture 7 = .ok (.getfield 18, 3) := by decide +kernel
theorem dX4_improveDeparture_10 : decode cX4_improveDeparture 10 = .ok (.getfield 64, 3) := by decide +kernel
theorem dX4_improveDeparture_13 : decode cX4_improveDeparture 13 = .ok (.iload_n 1, 1) := by decide +kernel
theorem dX4_improveDeparture_14 : decode cX4_improveDeparture 14 = .ok (.iaload, 1) := by decide +kernel
theorem dX4_improveDeparture_15 : decode cX4_improveDeparture 15 = .ok (.isub, 1) := by decide +kernel
theorem dX4_improveDeparture_16 : decode cX4_improveDeparture 16 = .ok (.istore 4, 2) := by decide +kernel
theorem dX4_improveDeparture_18 : decode cX4_improveDeparture 18 = .ok (.iload 4, 2) := by decide +kernel
theorem dX4_improveDeparture_20 : decode cX4_improveDeparture 20 = .ok (.aload_n 0, 1) := by decide +kernel
theorem dX4_improveDeparture_21 : decode cX4_improveDeparture 21 = .ok (.getfield 22, 3) := by decide +kernel
theorem dX4_improveDeparture_24 : decode cX4_improveDeparture 24 = .ok (.getfield 61, 3) := by decide +kernel
theorem dX4_improveDeparture_27 : decode cX4_improveDeparture 27 = .ok (.iload_n 1, 1) := by decide +kernel
theorem dX4_improveDeparture_28 : decode cX4_improveDeparture 28 = .ok (.iaload, 1) := by decide +kernel
theorem dX4_improveDeparture_29 : decode cX4_improveDeparture 29 = .ok (.if_icmp .ge 5, 3) := by decide +kernel
theorem dX4_improveDeparture_32 : decode cX4_improveDeparture 32 = .ok (.iconst 0, 1) := by decide +kernel
theorem dX4_improveDeparture_33 : decode cX4_improveDeparture 33 = .ok (.ireturn, 1) := by decide +kernel
theorem dX4_improveDeparture_34 : decode cX4_improveDeparture 34 = .ok (.aload_n 0, 1) := by decide +kernel
theorem dX4_improveDeparture_35 : decode cX4_improveDeparture 35 = .ok (.getfield 22, 3) := by decide +kernel
theorem dX4_improveDeparture_38 : decode cX4_improveDeparture 38 = .ok (.getfield 56, 3) := by decide +kernel
theorem dX4_improveDeparture_41 : decode cX4_improveDeparture 41 = .ok (.iload_n 1, 1) := by decide +kernel
theorem dX4_improveDeparture_42 : decode cX4_improveDeparture 42 = .ok (.iaload, 1) := by decide +kernel
theorem dX4_improveDeparture_43 : decode cX4_improveDeparture 43 = .ok (.istore 5, 2) := by decide +kernel
theorem dX4_improveDeparture_45 : decode cX4_improveDeparture 45 = .ok (.iload 5, 2) := by decide +kernel
theorem dX4_improveDeparture_47 : decode cX4_improveDeparture 47 = .ok (.ifCond .eq 16, 3) := by decide +kernel
theorem dX4_improveDeparture_50 : decode cX4_improveDeparture 50 = .ok (.iload 4, 2) := by decide +kernel
theorem dX4_improveDeparture_52 : decode cX4_improveDeparture 52 = .ok (.iload 5, 2) := by decide +kernel
theorem dX4_improveDeparture_54 : decode cX4_improveDeparture 54 = .ok (.if_icmp .lt 9, 3) := by decide +kernel
theorem dX4_improveDeparture_57 : decode cX4_improveDeparture 57 = .ok (.iload 5, 2) := by decide +kernel
theorem dX4_improveDeparture_59 : decode cX4_improveDeparture 59 = .ok (.iconst 1, 1) := by decide +kernel
theorem dX4_improveDeparture_60 : decode cX4_improveDeparture 60 = .ok (.isub, 1) := by decide +kernel
theorem dX4_improveDeparture_61 : decode cX4_improveDeparture 61 = .ok (.istore 4, 2) := by decide +kernel
theorem dX4_improveDeparture_63 : decode cX4_improveDeparture 63 = .ok (.iload 4, 2) := by decide +kernel
theorem dX4_improveDeparture_65 : decode cX4_improveDeparture 65 = .ok (.aload_n 0, 1) := by decide +kernel
theorem dX4_improveDeparture_66 : decode cX4_improveDeparture 66 = .ok (.getfield 15, 3) := by decide +kernel
theorem dX4_improveDeparture_69 : decode cX4_improveDeparture 69 = .ok (.iload_n 2, 1) := by decide +kernel
theorem dX4_improveDeparture_70 : decode cX4_improveDeparture 70 = .ok (.iaload, 1) := by decide +kernel
theorem dX4_improveDeparture_71 : decode cX4_improveDeparture 71 = .ok (.if_icmp .gt 5, 3) := by decide +kernel
theorem dX4_improveDeparture_74 : decode cX4_improveDeparture 74 = .ok (.iconst 0, 1) := by decide +kernel
theorem dX4_improveDeparture_75 : decode cX4_improveDeparture 75 = .ok (.ireturn, 1) := by decide +kernel
theorem dX4_improveDeparture_76 : decode cX4_improveDeparture 76 = .ok (.aload_n 0, 1) := by decide +kernel
theorem dX4_improveDeparture_77 : decode cX4_improveDeparture 77 = .ok (.getfield 15, 3) := by decide +kernel
theorem dX4_improveDeparture_80 : decode cX4_improveDeparture 80 = .ok (.iload_n 2, 1) := by decide +kernel
theorem dX4_improveDeparture_81 : decode cX4_improveDeparture 81 = .ok (.iload 4, 2) := by decide +kernel
theorem dX4_improveDeparture_83 : decode cX4_improveDeparture 83 = .ok (.iastore, 1) := by decide +kernel
theorem dX4_improveDeparture_84 : decode cX4_improveDeparture 84 = .ok (.iconst 1, 1) := by decide +kernel
theorem dX4_improveDeparture_85 : decode cX4_improveDeparture 85 = .ok (.ireturn, 1) := by decide +kernel
abbrev LX4_improveDeparture_63 (l1 l2 l3 l4 l5 : Int32) (I : MI) (Q : Int32 → MI → Prop) : Prop := WP mX4_improveDeparture 286 Rf0 63 [some (.ref 45), some (.int l1), some (.int l2), some (.int l3), some (.int l4), some (.int l5)] [] I (qi Q)
set_option maxRecDepth 20000 in
theorem rX4_improveDeparture_63 {l1 l2 l3 l4 l5 : Int32} {I : MI} {Q : Int32 → MI → Prop} (H : (vp_in l2 10 ∧ ((I 47 l2.toNatClampNeg) < l4 → (vp_in l2 10 ∧ ∀ I1 : MI, I1 = up2 I 47 l2.toNatClampNeg l4 → Q 1 I1)) ∧ (¬ (I 47 l2.toNatClampNeg) < l4 → (Q 0 I)))) : LX4_improveDeparture_63 l1 l2 l3 l4 l5 I Q := by
  show WP mX4_improveDeparture 286 Rf0 63 [some (.ref 45), some (.int l1), some (.int l2), some (.int l3), some (.int l4), some (.int l5)] [] I (qi Q)
  refine w_iload dX4_improveDeparture_63 rfl ?_
  refine w_aload_n dX4_improveDeparture_65 rfl rfl ?_
  refine w_getR dX4_improveDeparture_66 fl_4_15 okC4 kd_45 (by decide) (by decide) rfl rf_45_3 ?_
  refine w_iload_n dX4_improveDeparture_69 rfl rfl ?_
  refine w_iald dX4_improveDeparture_70 kd_47 (by decide) H.1 ?_
  replace H := H.2
  refine w_icmp_gt (t := 76) dX4_improveDeparture_71 (by decide) (fun h => ?_) (fun h => ?_)
  · replace H := H.1 h
    refine w_aload_n dX4_improveDeparture_76 rfl rfl ?_
    refine w_getR dX4_improveDeparture_77 fl_4_15 okC4 kd_45 (by decide) (by decide) rfl rf_45_3 ?_
    refine w_iload_n dX4_improveDeparture_80 rfl rfl ?_
    refine w_iload dX4_improveDeparture_81 rfl ?_
    refine w_iast dX4_improveDeparture_83 kd_47 (by decide) H.1 (w_up fun I1 hI => ?_)
    replace H := H.2 I1 hI
    refine w_iconst (v := 1) dX4_improveDeparture_84 (by decide) ?_
    exact w_zret dX4_improveDeparture_85 rfl rfl ⟨_, rfl, H⟩
  · replace H := H.2 h
    refine w_iconst (v := 0) dX4_improveDeparture_74 (by decide) ?_
    exact w_zret dX4_improveDeparture_75 rfl rfl ⟨_, rfl, H⟩
set_option maxRecDepth 20000 in
theorem rX4_improveDeparture {a1 a2 a3 : Int32} {I : MI} {Q : Int32 → MI → Prop} (H : (vp_in a3 10 ∧ vp_in a1 18 ∧ vp_in a1 18 ∧ ((I 33 a1.toNatClampNeg) ≤ ((I 47 a3.toNatClampNeg) - (I 27 a1.toNatClampNeg)) → (vp_in a1 18 ∧ ((I 34 a1.toNatClampNeg) = 0 → (LX4_improveDeparture_63 a1 a2 a3 ((I 47 a3.toNatClampNeg) - (I 27 a1.toNatClampNeg)) (I 34 a1.toNatClampNeg) I Q)) ∧ (¬ (I 34 a1.toNatClampNeg) = 0 → ((((I 47 a3.toNatClampNeg) - (I 27 a1.toNatClampNeg)) < (I 34 a1.toNatClampNeg) → (LX4_improveDeparture_63 a1 a2 a3 ((I 47 a3.toNatClampNeg) - (I 27 a1.toNatClampNeg)) (I 34 a1.toNatClampNeg) I Q)) ∧ (¬ ((I 47 a3.toNatClampNeg) - (I 27 a1.toNatClampNeg)) < (I 34 a1.toNatClampNeg) → (LX4_improveDeparture_63 a1 a2 a3 ((I 34 a1.toNatClampNeg) - 1) (I 34 a1.toNatClampNeg) I Q)))))) ∧ (¬ (I 33 a1.toNatClampNeg) ≤ ((I 47 a3.toNatClampNeg) - (I 27 a1.toNatClampNeg)) → (Q 0 I)))) : Wi mX4_improveDeparture [.ref 45, .int a1, .int a2, .int a3] I Q := by
  show WP mX4_improveDeparture 286 Rf0 0 [some (.ref 45), some (.int a1), some (.int a2), some (.int a3), none, none] [] I (qi Q)
  refine w_aload_n dX4_improveDeparture_0 rfl rfl ?_
  refine w_getR dX4_improveDeparture_1 fl_4_15 okC4 kd_45 (by decide) (by decide) rfl rf_45_3 ?_
  refine w_iload_n dX4_improveDeparture_4 rfl rfl ?_
  refine w_iald dX4_improveDeparture_5 kd_47 (by decide) H.1 ?_
  replace H := H.2
  refine w_aload_n dX4_improveDeparture_6 rfl rfl ?_
  refine w_getR dX4_improveDeparture_7 fl_4_18 okC4 kd_45 (by decide) (by decide) rfl rf_45_0 ?_
  refine w_getR dX4_improveDeparture_10 fl_4_64 okC6 kd_24 (by decide) (by decide) rfl rf_24_9 ?_
  refine w_iload_n dX4_improveDeparture_13 rfl rfl ?_
  refine w_iald dX4_improveDeparture_14 kd_27 (by decide) H.1 ?_
  replace H := H.2
  refine w_isub dX4_improveDeparture_15 ?_
  refine w_istore (ls' := [some (.ref 45), some (.int a1), some (.int a2), some (.int a3), some (.int ((I 47 a3.toNatClampNeg) - (I 27 a1.toNatClampNeg))), none]) dX4_improveDeparture_16 (by decide) rfl rfl ?_
  refine w_iload dX4_improveDeparture_18 rfl ?_
  refine w_aload_n dX4_improveDeparture_20 rfl rfl ?_
  refine w_getR dX4_improveDeparture_21 fl_4_22 okC4 kd_45 (by decide) (by decide) rfl rf_45_1 ?_
  refine w_getR dX4_improveDeparture_24 fl_4_61 okC8 kd_30 (by decide) (by decide) rfl rf_30_4 ?_
  refine w_iload_n dX4_improveDeparture_27 rfl rfl ?_
  refine w_iald dX4_improveDeparture_28 kd_33 (by decide) H.1 ?_
  replace H := H.2
  refine w_icmp_ge (t := 34) dX4_improveDeparture_29 (by decide) (fun h => ?_) (fun h => ?_)
  · replace H := H.1 h
    refine w_aload_n dX4_improveDeparture_34 rfl rfl ?_
    refine w_getR dX4_improveDeparture_35 fl_4_22 okC4 kd_45 (by decide) (by decide) rfl rf_45_1 ?_
    refine w_getR dX4_improveDeparture_38 fl_4_56 okC8 kd_30 (by decide) (by decide) rfl rf_30_5 ?_
    refine w_iload_n dX4_improveDeparture_41 rfl rfl ?_
    refine w_iald dX4_improveDeparture_42 kd_34 (by decide) H.1 ?_
    replace H := H.2
    refine w_istore (ls' := [some (.ref 45), some (.int a1), some (.int a2), some (.int a3), some (.int ((I 47 a3.toNatClampNeg) - (I 27 a1.toNatClampNeg))), some (.int (I 34 a1.toNatClampNeg))]) dX4_improveDeparture_43 (by decide) rfl rfl ?_
    refine w_iload dX4_improveDeparture_45 rfl ?_
    refine w_if_eq (t := 63) dX4_improveDeparture_47 (by decide) (fun h => ?_) (fun h => ?_)
    · replace H := H.1 h
      skip
      exact H
    · replace H := H.2 h
      refine w_iload dX4_improveDeparture_50 rfl ?_
      refine w_iload dX4_improveDeparture_52 rfl ?_
      refine w_icmp_lt (t := 63) dX4_improveDeparture_54 (by decide) (fun h => ?_) (fun h => ?_)
      · replace H := H.1 h
        skip
        exact H
      · replace H := H.2 h
        refine w_iload dX4_improveDeparture_57 rfl ?_
        refine w_iconst (v := 1) dX4_improveDeparture_59 (by decide) ?_
        refine w_isub dX4_improveDeparture_60 ?_
        refine w_istore (ls' := [some (.ref 45), some (.int a1), some (.int a2), some (.int a3), some (.int ((I 34 a1.toNatClampNeg) - 1)), some (.int (I 34 a1.toNatClampNeg))]) dX4_improveDeparture_61 (by decide) rfl rfl ?_
        skip
        exact H
  · replace H := H.2 h
    refine w_iconst (v := 0) dX4_improveDeparture_32 (by decide) ?_
    exact w_zret dX4_improveDeparture_33 rfl rfl ⟨_, rfl, H⟩
theorem dX5_readRound_0 : decode cX5_readRound 0 = .ok (.aload_n 0, 1) := by decide +kernel
theorem dX5_readRound_1 : decode cX5_readRound 1 = .ok (.getfield 12, 3) := by decide +kernel
theorem dX5_readRound_4 : decode cX5_readRound 4 = .ok (.invokevirtual 29, 3) := by decide +kernel
theorem dX5_readRound_7 : decode cX5_readRound 7 = .ok (.aload_n 0, 1) := by decide +kernel
theorem dX5_readRound_8 : decode cX5_readRound 8 = .ok (.iconst 0, 1) := by decide +kernel
theorem dX5_readRound_9 : decode cX5_readRound 9 = .ok (.putfield 32, 3) := by decide +kernel
theorem dX5_readRound_12 : decode cX5_readRound 12 = .ok (.aload_n 0, 1) := by decide +kernel
theorem dX5_readRound_13 : decode cX5_readRound 13 = .ok (.iconst 0, 1) := by decide +kernel
theorem dX5_readRound_14 : decode cX5_readRound 14 = .ok (.putfield 36, 3) := by decide +kernel
theorem dX5_readRound_17 : decode cX5_readRound 17 = .ok (.aload_n 0, 1) := by decide +kernel
theorem dX5_readRound_18 : decode cX5_readRound 18 = .ok (.getfield 25, 3) := by decide +kernel
theorem dX5_readRound_21 : decode cX5_readRound 21 = .ok (.iload_n 1, 1) := by decide +kernel
theorem dX5_readRound_22 : decode cX5_readRound 22 = .ok (.invokevirtual 39, 3) := by decide +kernel
theorem dX5_readRound_25 : decode cX5_readRound 25 = .ok (.iconst 0, 1) := by decide +kernel
theorem dX5_readRound_26 : decode cX5_readRound 26 = .ok (.istore_n 2, 1) := by decide +kernel
theorem dX5_readRound_27 : decode cX5_readRound 27 = .ok (.iload_n 2, 1) := by decide +kernel
theorem dX5_readRound_28 : decode cX5_readRound 28 = .ok (.sipush 900, 3) := by decide +kernel
theorem dX5_readRound_31 : decode cX5_readRound 31 = .ok (.if_icmp .ge 34, 3) := by decide +kernel
theorem dX5_readRound_34 : decode cX5_readRound 34 = .ok (.aload_n 0, 1) := by decide +kernel
theorem dX5_readRound_35 : decode cX5_readRound 35 = .ok (.getfield 36, 3) := by decide +kernel
theorem dX5_readRound_38 : decode cX5_readRound 38 = .ok (.ifCond .ne 27, 3) := by decide +kernel
theorem dX5_readRound_41 : decode cX5_readRound 41 = .ok (.aload_n 0, 1) := by decide +kernel
theorem dX5_readRound_42 : decode cX5_readRound 42 = .ok (.getfield 25, 3) := by decide +kernel
theorem dX5_readRound_45 : decode cX5_readRound 45 = .ok (.getfield 45, 3) := by decide +kernel
theorem dX5_readRound_48 : decode cX5_readRound 48 = .ok (.ifCond .eq 17, 3) := by decide +kernel
theorem dX5_readRound_51 : decode cX5_readRound 51 = .ok (.aload_n 0, 1) := by decide +kernel
theorem dX5_readRound_52 : decode cX5_readRound 52 = .ok (.invokevirtual 48, 3) := by decide +kernel
theorem dX5_readRound_55 : decode cX5_readRound 55 = .ok (.aload_n 0, 1) := by decide +kernel
theorem dX5_readRound_56 : decode cX5_readRound 56 = .ok (.invokevirtual 51, 3) := by decide +kernel
theorem dX5_readRound_59 : decode cX5_readRound 59 = .ok (.iinc 2 1, 3) := by decide +kernel
theorem dX5_readRound_62 : decode cX5_readRound 62 = .ok (.goto (-35), 3) := by decide +kernel
theorem dX5_readRound_65 : decode cX5_readRound 65 = .ok (.return_, 1) := by decide +kernel
abbrev LX5_readRound_27 (l1 l2 : Int32) (I : MI) (Q : MI → Prop) : Prop := WP mX5_readRound 286 Rf0 27 [some (.ref 3), some (.int l1), some (.int l2)] [] I (qv Q)
set_option maxRecDepth 20000 in
theorem rX5_readRound_27 {l1 l2 : Int32} {I : MI} {Q : MI → Prop} (H : ((900 ≤ l2 → (Q I)) ∧ (¬ 900 ≤ l2 → ((¬ (I 3 4) = 0 → (Q I)) ∧ ((I 3 4) = 0 → (((I 1 5) = 0 → (Q I)) ∧ (¬ (I 1 5) = 0 → (Wv mX5_readStatement [.ref 3] I (fun I1 => (Wv mX5_readSemicolon [.ref 3] I1 (fun I2 => (LX5_readRound_27 l1 (l2 + 1) I2 Q)))))))))))) : LX5_readRound_27 l1 l2 I Q := by
  show WP mX5_readRound 286 Rf0 27 [some (.ref 3), some (.int l1), some (.int l2)] [] I (qv Q)
  refine w_iload_n dX5_readRound_27 rfl rfl ?_
  refine w_sipush (v := 900) dX5_readRound_28 (by decide) ?_
  refine w_icmp_ge (t := 65) dX5_readRound_31 (by decide) (fun h => ?_) (fun h => ?_)
  · replace H := H.1 h
    exact w_vret dX5_readRound_65 rfl ⟨rfl, H⟩
  · replace H := H.2 h
    refine w_aload_n dX5_readRound_34 rfl rfl ?_
    refine w_getI dX5_readRound_35 fl_5_36 okC5 kd_3 (by decide) (by decide) rfl ?_
    refine w_if_ne (t := 65) dX5_readRound_38 (by decide) (fun h => ?_) (fun h => ?_)
    · replace H := H.1 h
      exact w_vret dX5_readRound_65 rfl ⟨rfl, H⟩
    · replace H := H.2 h
      refine w_aload_n dX5_readRound_41 rfl rfl ?_
      refine w_getR dX5_readRound_42 fl_5_25 okC5 kd_3 (by decide) (by decide) rfl rf_3_0 ?_
      refine w_getI dX5_readRound_45 fl_5_45 okC9 kd_1 (by decide) (by decide) rfl ?_
      refine w_if_eq (t := 65) dX5_readRound_48 (by decide) (fun h => ?_) (fun h => ?_)
      · replace H := H.1 h
        exact w_vret dX5_readRound_65 rfl ⟨rfl, H⟩
      · replace H := H.2 h
        refine w_aload_n dX5_readRound_51 rfl rfl ?_
        refine w_callV (st := []) (As := []) dX5_readRound_52 ml_5_48 okX5_readStatement kd_3 (by decide) rfl rfl rfl (Nat.le_of_ble_eq_true rfl) (by decide) (Nat.le_of_ble_eq_true rfl) (wc_v H (fun I1 H => ?_))
        refine w_aload_n dX5_readRound_55 rfl rfl ?_
        refine w_callV (st := []) (As := []) dX5_readRound_56 ml_5_51 okX5_readSemicolon kd_3 (by decide) rfl rfl rfl (Nat.le_of_ble_eq_true rfl) (by decide) (Nat.le_of_ble_eq_true rfl) (wc_v H (fun I2 H => ?_))
        refine w_iinc (v := l2 + 1) (ls' := [some (.ref 3), some (.int l1), some (.int (l2 + 1))]) dX5_readRound_59 rfl rfl (by decide) rfl rfl ?_
        refine w_goto (t := 27) dX5_readRound_62 (by decide) ?_
        skip
        exact H
set_option maxRecDepth 20000 in
theorem rX5_readRound {a1 : Int32} {I : MI} {Q : MI → Prop} (H : (Wv mX6_clear [.ref 4] I (fun I1 => (∀ I2 : MI, I2 = up2 I1 3 3 0 → ∀ I3 : MI, I3 = up2 I2 3 4 0 → Wv mX9_begin [.ref 1, .int a1] I3 (fun I4 => (LX5_readRound_27 a1 0 I4 Q)))))) : Wv mX5_readRound [.ref 3, .int a1] I Q := by
  show WP mX5_readRound 286 Rf0 0 [some (.ref 3), some (.int a1), none] [] I (qv Q)
  refine w_aload_n dX5_readRound_0 rfl rfl ?_
  refine w_getR dX5_readRound_1 fl_5_12 okC5 kd_3 (by decide) (by decide) rfl rf_3_1 ?_
  refine w_callV (st := []) (As := []) dX5_readRound_4 ml_5_29 okX6_clear kd_4 (by decide) rfl rfl rfl (Nat.le_of_ble_eq_true rfl) (by decide) (Nat.le_of_ble_eq_true rfl) (wc_v H (fun I1 H => ?_))
  refine w_aload_n dX5_readRound_7 rfl rfl ?_
  refine w_iconst (v := 0) dX5_readRound_8 (by decide) ?_
  refine w_putI dX5_readRound_9 fl_5_32 okC5 kd_3 (by decide) (by decide) rfl rfl rfl (w_up fun I2 hI => ?_)
  replace H := H I2 hI
  refine w_aload_n dX5_readRound_12 rfl rfl ?_
  refine w_iconst (v := 0) dX5_readRound_13 (by decide) ?_
  refine w_putI dX5_readRound_14 fl_5_36 okC5 kd_3 (by decide) (by decide) rfl rfl rfl (w_up fun I3 hI => ?_)
  replace H := H I3 hI
  refine w_aload_n dX5_readRound_17 rfl rfl ?_
  refine w_getR dX5_readRound_18 fl_5_25 okC5 kd_3 (by decide) (by decide) rfl rf_3_0 ?_
  refine w_iload_n dX5_readRound_21 rfl rfl ?_
  refine w_callV (st := []) (As := [.int a1]) dX5_readRound_22 ml_5_39 okX9_begin kd_1 (by decide) rfl rfl rfl (Nat.le_of_ble_eq_true rfl) (by decide) (Nat.le_of_ble_eq_true rfl) (wc_v H (fun I4 H => ?_))
  refine w_iconst (v := 0) dX5_readRound_25 (by decide) ?_
  refine w_istore_n (ls' := [some (.ref 3), some (.int a1), some (.int 0)]) dX5_readRound_26 rfl (by decide) rfl rfl ?_
  skip
  exact H
theorem dX5_readStatement_0 : decode cX5_readStatement 0 = .ok (.aload_n 0, 1) := by decide +kernel
theorem dX5_readStatement_1 : decode cX5_readStatement 1 = .ok (.getfield 25, 3) := by decide +kernel
theorem dX5_readStatement_4 : decode cX5_readStatement 4 = .ok (.ldc 54, 2) := by decide +kernel
theorem dX5_readStatement_6 : decode cX5_readStatement 6 = .ok (.invokevirtual 56, 3) := by decide +kernel
theorem dX5_readStatement_9 : decode cX5_readStatement 9 = .ok (.ifCond .eq 10, 3) := by decide +kernel
theorem dX5_readStatement_12 : decode cX5_readStatement 12 = .ok (.aload_n 0, 1) := by decide +kernel
theorem dX5_readStatement_13 : decode cX5_readStatement 13 = .ok (.invokevirtual 60, 3) := by decide +kernel
theorem dX5_readStatement_16 : decode cX5_readStatement 16 = .ok (.goto 173, 3) := by decide +kernel
theorem dX5_readStatement_19 : decode cX5_readStatement 19 = .ok (.aload_n 0, 1) := by decide +kernel
theorem dX5_readStatement_20 : decode cX5_readStatement 20 = .ok (.getfield 25, 3) := by decide +kernel
theorem dX5_readStatement_23 : decode cX5_readStatement 23 = .ok (.ldc 63, 2) := by decide +kernel
theorem dX5_readStatement_25 : decode cX5_readStatement 25 = .ok (.invokevirtual 56, 3) := by decide +kernel
theorem dX5_readStatement_28 : decode cX5_readStatement 28 = .ok (.ifCond .eq 27, 3) := by decide +kernel
theorem dX5_readStatement_31 : decode cX5_readStatement 31 = .ok (.aload_n 0, 1) := by decide +kernel
theorem dX5_readStatement_32 : decode cX5_readStatement 32 = .ok (.iconst 2, 1) := by decide +kernel
theorem dX5_readStatement_33 : decode cX5_readStatement 33 = .ok (.invokevirtual 65, 3) := by decide +kernel
theorem dX5_readStatement_36 : decode cX5_readStatement 36 = .ok (.aload_n 0, 1) := by decide +kernel
theorem dX5_readStatement_37 : decode cX5_readStatement 37 = .ok (.getfield 12, 3) := by decide +kernel
theorem dX5_readStatement_40 : decode cX5_readStatement 40 = .ok (.aload_n 0, 1) := by decide +kernel
theorem dX5_readStatement_41 : decode cX5_readStatement 41 = .ok (.bipush 10, 2) := by decide +kernel
theorem dX5_readStatement_43 : decode cX5_readStatement 43 = .ok (.sipush 200, 3) := by decide +kernel
theorem dX5_readStatement_46 : decode cX5_readStatement 46 = .ok (.invokevirtual 68, 3) := by decide +kernel
theorem dX5_readStatement_49 : decode cX5_readStatement 49 = .ok (.putfield 72, 3) := by decide +kernel
theorem dX5_readStatement_52 : decode cX5_readStatement 52 = .ok (.goto 137, 3) := by decide +kernel
theorem dX5_readStatement_55 : decode cX5_readStatement 55 = .ok (.aload_n 0, 1) := by decide +kernel
theorem dX5_readStatement_56 : decode cX5_readStatement 56 = .ok (.getfield 25, 3) := by decide +kernel
theorem dX5_readStatement_59 : decode cX5_readStatement 59 = .ok (.ldc 75, 2) := by decide +kernel
theorem dX5_readStatement_61 : decode cX5_readStatement 61 = .ok (.invokevirtual 56, 3) := by decide +kernel
theorem dX5_readStatement_64 : decode cX5_readStatement 64 = .ok (.ifCond .eq 26, 3) := by decide +kernel
theorem dX5_readStatement_67 : decode cX5_readStatement 67 = .ok (.aload_n 0, 1) := by decide +kernel
theorem dX5_readStatement_68 : decode cX5_readStatement 68 = .ok (.iconst 4, 1) := by decide +kernel
theorem dX5_readStatement_69 : decode cX5_readStatement 69 = .ok (.invokevirtual 65, 3) := by decide +kernel
theorem dX5_readStatement_72 : decode cX5_readStatement 72 = .ok (.aload_n 0, 1) := by decide +kernel
theorem dX5_readStatement_73 : decode cX5_readStatement 73 = .ok (.getfield 12, 3) := by decide +kernel
theorem dX5_readStatement_76 : decode cX5_readStatement 76 = .ok (.aload_n 0, 1) := by decide +kernel
theorem dX5_readStatement_77 : decode cX5_readStatement 77 = .ok (.iconst 0, 1) := by decide +kernel
theorem dX5_readStatement_78 : decode cX5_readStatement 78 = .ok (.sipush 1439, 3) := by decide +kernel
theorem dX5_readStatement_81 : decode cX5_readStatement 81 = .ok (.invokevirtual 68, 3) := by decide +kernel
theorem dX5_readStatement_84 : decode cX5_readStatement 84 = .ok (.putfield 77, 3) := by decide +kernel
theorem dX5_readStatement_87 : decode cX5_readStatement 87 = .ok (.goto 102, 3) := by decide +kernel
theorem dX5_readStatement_90 : decode cX5_readStatement 90 = .ok (.aload_n 0, 1) := by decide +kernel
theorem dX5_readStatement_91 : decode cX5_readStatement 91 = .ok (.getfield 25, 3) := by decide +kernel
theorem dX5_readStatement_94 : decode cX5_readStatement 94 = .ok (.ldc 79, 2) := by decide +kernel
theorem dX5_readStatement_96 : decode cX5_readStatement 96 = .ok (.invokevirtual 56, 3) := by decide +kernel
theorem dX5_readStatement_99 : decode cX5_readStatement 99 = .ok (.ifCond .eq 40, 3) := by decide +kernel
theorem dX5_readStatement_102 : decode cX5_readStatement 102 = .ok (.aload_n 0, 1) := by decide +kernel
theorem dX5_readStatement_103 : decode cX5_readStatement 103 = .ok (.bipush 8, 2) := by decide +kernel
theorem dX5_readStatement_105 : decode cX5_readStatement 105 = .ok (.invokevirtual 65, 3) := by decide +kernel
theorem dX5_readStatement_108 : decode cX5_readStatement 108 = .ok (.aload_n 0, 1) := by decide +kernel
theorem dX5_readStatement_109 : decode cX5_readStatement 109 = .ok (.getfield 12, 3) := by decide +kernel
theorem dX5_readStatement_112 : decode cX5_readStatement 112 = .ok (.aload_n 0, 1) := by decide +kernel
theorem dX5_readStatement_113 : decode cX5_readStatement 113 = .ok (.iconst 0, 1) := by decide +kernel
theorem dX5_readStatement_114 : decode cX5_readStatement 114 = .ok (.bipush 99, 2) := by decide +kernel
theorem dX5_readStatement_116 : decode cX5_readStatement 116 = .ok (.invokevirtual 68, 3) := by decide +kernel
theorem dX5_readStatement_119 : decode cX5_readStatement 119 = .ok (.putfield 81, 3) := by decide +kernel
theorem dX5_readStatement_122 : decode cX5_readStatement 122 = .ok (.aload_n 0, 1) := by decide +kernel
theorem dX5_readStatement_123 : decode cX5_readStatement 123 = .ok (.getfield 12, 3) := by decide +kernel
theorem dX5_readStatement_126 : decode cX5_readStatement 126 = .ok (.aload_n 0, 1) := by decide +kernel
theorem dX5_readStatement_127 : decode cX5_readStatement 127 = .ok (.iconst 0, 1) := by decide +kernel
theorem dX5_readStatement_128 : decode cX5_readStatement 128 = .ok (.bipush 99, 2) := by decide +kernel
theorem dX5_readStatement_130 : decode cX5_readStatement 130 = .ok (.invokevirtual 68, 3) := by decide +kernel
theorem dX5_readStatement_133 : decode cX5_readStatement 133 = .ok (.putfield 83, 3) := by decide +kernel
theorem dX5_readStatement_136 : decode cX5_readStatement 136 = .ok (.goto 53, 3) := by decide +kernel
theorem dX5_readStatement_139 : decode cX5_readStatement 139 = .ok (.aload_n 0, 1) := by decide +kernel
theorem dX5_readStatement_140 : decode cX5_readStatement 140 = .ok (.getfield 25, 3) := by decide +kernel
theorem dX5_readStatement_143 : decode cX5_readStatement 143 = .ok (.ldc 86, 2) := by decide +kernel
theorem dX5_readStatement_145 : decode cX5_readStatement 145 = .ok (.invokevirtual 56, 3) := by decide +kernel
theorem dX5_readStatement_148 : decode cX5_readStatement 148 = .ok (.ifCond .eq 10, 3) := by decide +kernel
theorem dX5_readStatement_151 : decode cX5_readStatement 151 = .ok (.aload_n 0, 1) := by decide +kernel
theorem dX5_readStatement_152 : decode cX5_readStatement 152 = .ok (.invokevirtual 88, 3) := by decide +kernel
theorem dX5_readStatement_155 : decode cX5_readStatement 155 = .ok (.goto 34, 3) := by decide +kernel
theorem dX5_readStatement_158 : decode cX5_readStatement 158 = .ok (.aload_n 0, 1) := by decide +kernel
theorem dX5_readStatement_159 : decode cX5_readStatement 159 = .ok (.getfield 25, 3) := by decide +kernel
theorem dX5_readStatement_162 : decode cX5_readStatement 162 = .ok (.ldc 91, 2) := by decide +kernel
theorem dX5_readStatement_164 : decode cX5_readStatement 164 = .ok (.invokevirtual 56, 3) := by decide +kernel
theorem dX5_readStatement_167 : decode cX5_readStatement 167 = .ok (.ifCond .eq 10, 3) := by decide +kernel
theorem dX5_readStatement_170 : decode cX5_readStatement 170 = .ok (.aload_n 0, 1) := by decide +kernel
theorem dX5_readStatement_171 : decode cX5_readStatement 171 = .ok (.invokevirtual 93, 3) := by decide +kernel
theorem dX5_readStatement_174 : decode cX5_readStatement 174 = .ok (.goto 15, 3) := by decide +kernel
theorem dX5_readStatement_177 : decode cX5_readStatement 177 = .ok (.aload_n 0, 1) := by decide +kernel
theorem dX5_readStatement_178 : decode cX5_readStatement 178 = .ok (.aload_n 0, 1) := by decide +kernel
theorem dX5_readStatement_179 : decode cX5_readStatement 179 = .ok (.getfield 25, 3) := by decide +kernel
theorem dX5_readStatement_182 : decode cX5_readStatement 182 = .ok (.getfield 96, 3) := by decide +kernel
theorem dX5_readStatement_185 : decode cX5_readStatement 185 = .ok (.iconst 1, 1) := by decide +kernel
theorem dX5_readStatement_186 : decode cX5_readStatement 186 = .ok (.invokevirtual 97, 3) := by decide +kernel
theorem dX5_readStatement_189 : decode cX5_readStatement 189 = .ok (.return_, 1) := by decide +kernel
set_option maxRecDepth 20000 in
theorem rX5_readStatement {I : MI} {Q : MI → Prop} (H : (Wi mX9_isWord [.ref 1, .retAddr (2 * 0 + 1)] I (fun r2 I1 => ((r2 = 0 → (Wi mX9_isWord [.ref 1, .retAddr (2 * 1 + 1)] I1 (fun r4 I3 => ((r4 = 0 → (Wi mX9_isWord [.ref 1, .retAddr (2 * 2 + 1)] I3 (fun r6 I5 => ((r6 = 0 → (Wi mX9_isWord [.ref 1, .retAddr (2 * 3 + 1)] I5 (fun r8 I7 => ((r8 = 0 → (Wi mX9_isWord [.ref 1, .retAddr (2 * 4 + 1)] I7 (fun r10 I9 => ((r10 = 0 → (Wi mX9_isWord [.ref 1, .retAddr (2 * 5 + 1)] I9 (fun r12 I11 => ((r12 = 0 → (Wv mX5_fail [.ref 3, .int (I11 1 3), .int 1] I11 (fun I13 => (Q I13)))) ∧ (¬ r12 = 0 → (Wv mX5_readHouse [.ref 3] I11 (fun I13 => (Q I13)))))))) ∧ (¬ r10 = 0 → (Wv mX5_readStreet [.ref 3] I9 (fun I11 => (Q I11)))))))) ∧ (¬ r8 = 0 → (Wv mX5_takeOnce [.ref 3, .int 8] I7 (fun I9 => (Wi mX5_readNumber [.ref 3, .int 0, .int 99] I9 (fun r11 I10 => (∀ I12 : MI, I12 = up2 I10 4 5 r11 → Wi mX5_readNumber [.ref 3, .int 0, .int 99] I12 (fun r14 I13 => (∀ I15 : MI, I15 = up2 I13 4 6 r14 → Q I15)))))))))))) ∧ (¬ r6 = 0 → (Wv mX5_takeOnce [.ref 3, .int 4] I5 (fun I7 => (Wi mX5_readNumber [.ref 3, .int 0, .int 1439] I7 (fun r9 I8 => (∀ I10 : MI, I10 = up2 I8 4 4 r9 → Q I10)))))))))) ∧ (¬ r4 = 0 → (Wv mX5_takeOnce [.ref 3, .int 2] I3 (fun I5 => (Wi mX5_readNumber [.ref 3, .int 10, .int 200] I5 (fun r7 I6 => (∀ I8 : MI, I8 = up2 I6 4 3 r7 → Q I8)))))))))) ∧ (¬ r2 = 0 → (Wv mX5_readNodes [.ref 3] I1 (fun I3 => (Q I3)))))))) : Wv mX5_readStatement [.ref 3] I Q := by
  show WP mX5_readStatement 286 Rf0 0 [some (.ref 3)] [] I (qv Q)
  refine w_aload_n dX5_readStatement_0 rfl rfl ?_
  refine w_getR dX5_readStatement_1 fl_5_25 okC5 kd_3 (by decide) (by decide) rfl rf_3_0 ?_
  refine w_ldcS (j := 0) (tx := "nodes") dX5_readStatement_4 (by decide +kernel) ?_
  refine w_callV (st := []) (As := [.retAddr (2 * 0 + 1)]) dX5_readStatement_6 ml_5_56 okX9_isWord kd_1 (by decide) rfl rfl rfl (Nat.le_of_ble_eq_true rfl) (by decide) (Nat.le_of_ble_eq_true rfl) (wc_i H (fun r2 I1 H => ?_))
  refine w_if_eq (t := 19) dX5_readStatement_9 (by decide) (fun h => ?_) (fun h => ?_)
  · replace H := H.1 h
    refine w_aload_n dX5_readStatement_19 rfl rfl ?_
    refine w_getR dX5_readStatement_20 fl_5_25 okC5 kd_3 (by decide) (by decide) rfl rf_3_0 ?_
    refine w_ldcS (j := 1) (tx := "cart") dX5_readStatement_23 (by decide +kernel) ?_
    refine w_callV (st := []) (As := [.retAddr (2 * 1 + 1)]) dX5_readStatement_25 ml_5_56 okX9_isWord kd_1 (by decide) rfl rfl rfl (Nat.le_of_ble_eq_true rfl) (by decide) (Nat.le_of_ble_eq_true rfl) (wc_i H (fun r4 I3 H => ?_))
    refine w_if_eq (t := 55) dX5_readStatement_28 (by decide) (fun h => ?_) (fun h => ?_)
    · replace H := H.1 h
      refine w_aload_n dX5_readStatement_55 rfl rfl ?_
      refine w_getR dX5_readStatement_56 fl_5_25 okC5 kd_3 (by decide) (by decide) rfl rf_3_0 ?_
      refine w_ldcS (j := 2) (tx := "start") dX5_readStatement_59 (by decide +kernel) ?_
      refine w_callV (st := []) (As := [.retAddr (2 * 2 + 1)]) dX5_readStatement_61 ml_5_56 okX9_isWord kd_1 (by decide) rfl rfl rfl (Nat.le_of_ble_eq_true rfl) (by decide) (Nat.le_of_ble_eq_true rfl) (wc_i H (fun r6 I5 H => ?_))
      refine w_if_eq (t := 90) dX5_readStatement_64 (by decide) (fun h => ?_) (fun h => ?_)
      · replace H := H.1 h
        refine w_aload_n dX5_readStatement_90 rfl rfl ?_
        refine w_getR dX5_readStatement_91 fl_5_25 okC5 kd_3 (by decide) (by decide) rfl rf_3_0 ?_
        refine w_ldcS (j := 3) (tx := "price") dX5_readStatement_94 (by decide +kernel) ?_
        refine w_callV (st := []) (As := [.retAddr (2 * 3 + 1)]) dX5_readStatement_96 ml_5_56 okX9_isWord kd_1 (by decide) rfl rfl rfl (Nat.le_of_ble_eq_true rfl) (by decide) (Nat.le_of_ble_eq_true rfl) (wc_i H (fun r8 I7 H => ?_))
        refine w_if_eq (t := 139) dX5_readStatement_99 (by decide) (fun h => ?_) (fun h => ?_)
        · replace H := H.1 h
          refine w_aload_n dX5_readStatement_139 rfl rfl ?_
          refine w_getR dX5_readStatement_140 fl_5_25 okC5 kd_3 (by decide) (by decide) rfl rf_3_0 ?_
          refine w_ldcS (j := 4) (tx := "street") dX5_readStatement_143 (by decide +kernel) ?_
          refine w_callV (st := []) (As := [.retAddr (2 * 4 + 1)]) dX5_readStatement_145 ml_5_56 okX9_isWord kd_1 (by decide) rfl rfl rfl (Nat.le_of_ble_eq_true rfl) (by decide) (Nat.le_of_ble_eq_true rfl) (wc_i H (fun r10 I9 H => ?_))
          refine w_if_eq (t := 158) dX5_readStatement_148 (by decide) (fun h => ?_) (fun h => ?_)
          · replace H := H.1 h
            refine w_aload_n dX5_readStatement_158 rfl rfl ?_
            refine w_getR dX5_readStatement_159 fl_5_25 okC5 kd_3 (by decide) (by decide) rfl rf_3_0 ?_
            refine w_ldcS (j := 5) (tx := "house") dX5_readStatement_162 (by decide +kernel) ?_
            refine w_callV (st := []) (As := [.retAddr (2 * 5 + 1)]) dX5_readStatement_164 ml_5_56 okX9_isWord kd_1 (by decide) rfl rfl rfl (Nat.le_of_ble_eq_true rfl) (by decide) (Nat.le_of_ble_eq_true rfl) (wc_i H (fun r12 I11 H => ?_))
            refine w_if_eq (t := 177) dX5_readStatement_167 (by decide) (fun h => ?_) (fun h => ?_)
            · replace H := H.1 h
              refine w_aload_n dX5_readStatement_177 rfl rfl ?_
              refine w_aload_n dX5_readStatement_178 rfl rfl ?_
              refine w_getR dX5_readStatement_179 fl_5_25 okC5 kd_3 (by decide) (by decide) rfl rf_3_0 ?_
              refine w_getI dX5_readStatement_182 fl_5_96 okC9 kd_1 (by decide) (by decide) rfl ?_
              refine w_iconst (v := 1) dX5_readStatement_185 (by decide) ?_
              refine w_callV (st := []) (As := [.int (I11 1 3), .int 1]) dX5_readStatement_186 ml_5_97 okX5_fail kd_3 (by decide) rfl rfl rfl (Nat.le_of_ble_eq_true rfl) (by decide) (Nat.le_of_ble_eq_true rfl) (wc_v H (fun I13 H => ?_))
              exact w_vret dX5_readStatement_189 rfl ⟨rfl, H⟩
            · replace H := H.2 h
              refine w_aload_n dX5_readStatement_170 rfl rfl ?_
              refine w_callV (st := []) (As := []) dX5_readStatement_171 ml_5_93 okX5_readHouse kd_3 (by decide) rfl rfl rfl (Nat.le_of_ble_eq_true rfl) (by decide) (Nat.le_of_ble_eq_true rfl) (wc_v H (fun I13 H => ?_))
              refine w_goto (t := 189) dX5_readStatement_174 (by decide) ?_
              exact w_vret dX5_readStatement_189 rfl ⟨rfl, H⟩
          · replace H := H.2 h
            refine w_aload_n dX5_readStatement_151 rfl rfl ?_
            refine w_callV (st := []) (As := []) dX5_readStatement_152 ml_5_88 okX5_readStreet kd_3 (by decide) rfl rfl rfl (Nat.le_of_ble_eq_true rfl) (by decide) (Nat.le_of_ble_eq_true rfl) (wc_v H (fun I11 H => ?_))
            refine w_goto (t := 189) dX5_readStatement_155 (by decide) ?_
            exact w_vret dX5_readStatement_189 rfl ⟨rfl, H⟩
        · replace H := H.2 h
          refine w_aload_n dX5_readStatement_102 rfl rfl ?_
          refine w_bipush (v := 8) dX5_readStatement_103 (by decide) ?_
          refine w_callV (st := []) (As := [.int 8]) dX5_readStatement_105 ml_5_65 okX5_takeOnce kd_3 (by decide) rfl rfl rfl (Nat.le_of_ble_eq_true rfl) (by decide) (Nat.le_of_ble_eq_true rfl) (wc_v H (fun I9 H => ?_))
          refine w_aload_n dX5_readStatement_108 rfl rfl ?_
          refine w_getR dX5_readStatement_109 fl_5_12 okC5 kd_3 (by decide) (by decide) rfl rf_3_1 ?_
          refine w_aload_n dX5_readStatement_112 rfl rfl ?_
          refine w_iconst (v := 0) dX5_readStatement_113 (by decide) ?_
          refine w_bipush (v := 99) dX5_readStatement_114 (by decide) ?_
          refine w_callV (st := [.ref 4]) (As := [.int 0, .int 99]) dX5_readStatement_116 ml_5_68 okX5_readNumber kd_3 (by decide) rfl rfl rfl (Nat.le_of_ble_eq_true rfl) (by decide) (Nat.le_of_ble_eq_true rfl) (wc_i H (fun r11 I10 H => ?_))
          refine w_putI dX5_readStatement_119 fl_5_81 okC6 kd_4 (by decide) (by decide) rfl rfl rfl (w_up fun I12 hI => ?_)
          replace H := H I12 hI
          refine w_aload_n dX5_readStatement_122 rfl rfl ?_
          refine w_getR dX5_readStatement_123 fl_5_12 okC5 kd_3 (by decide) (by decide) rfl rf_3_1 ?_
          refine w_aload_n dX5_readStatement_126 rfl rfl ?_
          refine w_iconst (v := 0) dX5_readStatement_127 (by decide) ?_
          refine w_bipush (v := 99) dX5_readStatement_128 (by decide) ?_
          refine w_callV (st := [.ref 4]) (As := [.int 0, .int 99]) dX5_readStatement_130 ml_5_68 okX5_readNumber kd_3 (by decide) rfl rfl rfl (Nat.le_of_ble_eq_true rfl) (by decide) (Nat.le_of_ble_eq_true rfl) (wc_i H (fun r14 I13 H => ?_))
          refine w_putI dX5_readStatement_133 fl_5_83 okC6 kd_4 (by decide) (by decide) rfl rfl rfl (w_up fun I15 hI => ?_)
          replace H := H I15 hI
          refine w_goto (t := 189) dX5_readStatement_136 (by decide) ?_
          exact w_vret dX5_readStatement_189 rfl ⟨rfl, H⟩
      · replace H := H.2 h
        refine w_aload_n dX5_readStatement_67 rfl rfl ?_
        refine w_iconst (v := 4) dX5_readStatement_68 (by decide) ?_
        refine w_callV (st := []) (As := [.int 4]) dX5_readStatement_69 ml_5_65 okX5_takeOnce kd_3 (by decide) rfl rfl rfl (Nat.le_of_ble_eq_true rfl) (by decide) (Nat.le_of_ble_eq_true rfl) (wc_v H (fun I7 H => ?_))
        refine w_aload_n dX5_readStatement_72 rfl rfl ?_
        refine w_getR dX5_readStatement_73 fl_5_12 okC5 kd_3 (by decide) (by decide) rfl rf_3_1 ?_
        refine w_aload_n dX5_readStatement_76 rfl rfl ?_
        refine w_iconst (v := 0) dX5_readStatement_77 (by decide) ?_
        refine w_sipush (v := 1439) dX5_readStatement_78 (by decide) ?_
        refine w_callV (st := [.ref 4]) (As := [.int 0, .int 1439]) dX5_readStatement_81 ml_5_68 okX5_readNumber kd_3 (by decide) rfl rfl rfl (Nat.le_of_ble_eq_true rfl) (by decide) (Nat.le_of_ble_eq_true rfl) (wc_i H (fun r9 I8 H => ?_))
        refine w_putI dX5_readStatement_84 fl_5_77 okC6 kd_4 (by decide) (by decide) rfl rfl rfl (w_up fun I10 hI => ?_)
        replace H := H I10 hI
        refine w_goto (t := 189) dX5_readStatement_87 (by decide) ?_
        exact w_vret dX5_readStatement_189 rfl ⟨rfl, H⟩
    · replace H := H.2 h
      refine w_aload_n dX5_readStatement_31 rfl rfl ?_
      refine w_iconst (v := 2) dX5_readStatement_32 (by decide) ?_
      refine w_callV (st := []) (As := [.int 2]) dX5_readStatement_33 ml_5_65 okX5_takeOnce kd_3 (by decide) rfl rfl rfl (Nat.le_of_ble_eq_true rfl) (by decide) (Nat.le_of_ble_eq_true rfl) (wc_v H (fun I5 H => ?_))
      refine w_aload_n dX5_readStatement_36 rfl rfl ?_
      refine w_getR dX5_readStatement_37 fl_5_12 okC5 kd_3 (by decide) (by decide) rfl rf_3_1 ?_
      refine w_aload_n dX5_readStatement_40 rfl rfl ?_
      refine w_bipush (v := 10) dX5_readStatement_41 (by decide) ?_
      refine w_sipush (v := 200) dX5_readStatement_43 (by decide) ?_
      refine w_callV (st := [.ref 4]) (As := [.int 10, .int 200]) dX5_readStatement_46 ml_5_68 okX5_readNumber kd_3 (by decide) rfl rfl rfl (Nat.le_of_ble_eq_true rfl) (by decide) (Nat.le_of_ble_eq_true rfl) (wc_i H (fun r7 I6 H => ?_))
      refine w_putI dX5_readStatement_49 fl_5_72 okC6 kd_4 (by decide) (by decide) rfl rfl rfl (w_up fun I8 hI => ?_)
      replace H := H I8 hI
      refine w_goto (t := 189) dX5_readStatement_52 (by decide) ?_
      exact w_vret dX5_readStatement_189 rfl ⟨rfl, H⟩
  · replace H := H.2 h
    refine w_aload_n dX5_readStatement_12 rfl rfl ?_
    refine w_callV (st := []) (As := []) dX5_readStatement_13 ml_5_60 okX5_readNodes kd_3 (by decide) rfl rfl rfl (Nat.le_of_ble_eq_true rfl) (by decide) (Nat.le_of_ble_eq_true rfl) (wc_v H (fun I3 H => ?_))
    refine w_goto (t := 189) dX5_readStatement_16 (by decide) ?_
    exact w_vret dX5_readStatement_189 rfl ⟨rfl, H⟩
theorem dX5_readNodes_0 : decode cX5_readNodes 0 = .ok (.aload_n 0, 1) := by decide +kernel
theorem dX5_readNodes_1 : decode cX5_readNodes 1 = .ok (.getfield 12, 3) := by decide +kernel
theorem dX5_readNodes_4 : decode cX5_readNodes 4 = .ok (.getfield 101, 3) := by decide +kernel
theorem dX5_readNodes_7 : decode cX5_readNodes 7 = .ok (.ifCond .gt 13, 3) := by decide +kernel
theorem dX5_readNodes_10 : decode cX5_readNodes 10 = .ok (.aload_n 0, 1) := by decide +kernel
theorem dX5_readNodes_11 : decode cX5_readNodes 11 = .ok (.getfield 12, 3) := by decide +kernel
theorem dX5_readNodes_14 : decode cX5_readNodes 14 = .ok (.getfield 104, 3) := by decide +kernel
theorem dX5_readNodes_17 : decode cX5_readNodes 17 = .ok (.ifCond .le 15, 3) := by decide +kernel
theorem dX5_readNodes_20 : decode cX5_readNodes 20 = .ok (.aload_n 0, 1) := by decide +kernel
theorem dX5_readNodes_21 : decode cX5_readNodes 21 = .ok (.aload_n 0, 1) := by decide +kernel
theorem dX5_readNodes_22 : decode cX5_readNodes 22 = .ok (.getfield 25, 3) := by decide +kernel
theorem dX5_readNodes_25 : decode cX5_readNodes 25 = .ok (.getfield 96, 3) := by decide +kernel
theorem dX5_readNodes_28 : decode cX5_readNodes 28 = .ok (.iconst 1, 1) := by decide +kernel
theorem dX5_readNodes_29 : decode cX5_readNodes 29 = .ok (.invokevirtual 97, 3) := by decide +kernel
theorem dX5_readNodes_32 : decode cX5_readNodes 32 = .ok (.aload_n 0, 1) := by decide +kernel
theorem dX5_readNodes_33 : decode cX5_readNodes 33 = .ok (.iconst 1, 1) := by decide +kernel
theorem dX5_readNodes_34 : decode cX5_readNodes 34 = .ok (.invokevirtual 65, 3) := by decide +kernel
theorem dX5_readNodes_37 : decode cX5_readNodes 37 = .ok (.aload_n 0, 1) := by decide +kernel
theorem dX5_readNodes_38 : decode cX5_readNodes 38 = .ok (.getfield 12, 3) := by decide +kernel
theorem dX5_readNodes_41 : decode cX5_readNodes 41 = .ok (.aload_n 0, 1) := by decide +kernel
theorem dX5_readNodes_42 : decode cX5_readNodes 42 = .ok (.iconst 2, 1) := by decide +kernel
theorem dX5_readNodes_43 : decode cX5_readNodes 43 = .ok (.bipush 10, 2) := by decide +kernel
theorem dX5_readNodes_45 : decode cX5_readNodes 45 = .ok (.invokevirtual 68, 3) := by decide +kernel
theorem dX5_readNodes_48 : decode cX5_readNodes 48 = .ok (.putfield 107, 3) := by decide +kernel
theorem dX5_readNodes_51 : decode cX5_readNodes 51 = .ok (.return_, 1) := by decide +kernel
abbrev LX5_readNodes_20 (I : MI) (Q : MI → Prop) : Prop := WP mX5_readNodes 286 Rf0 20 [some (.ref 3)] [] I (qv Q)
abbrev LX5_readNodes_32 (I : MI) (Q : MI → Prop) : Prop := WP mX5_readNodes 286 Rf0 32 [some (.ref 3)] [] I (qv Q)
set_option maxRecDepth 20000 in
theorem rX5_readNodes_20 {I : MI} {Q : MI → Prop} (H : (Wv mX5_fail [.ref 3, .int (I 1 3), .int 1] I (fun I1 => (LX5_readNodes_32  I1 Q)))) : LX5_readNodes_20  I Q := by
  show WP mX5_readNodes 286 Rf0 20 [some (.ref 3)] [] I (qv Q)
  refine w_aload_n dX5_readNodes_20 rfl rfl ?_
  refine w_aload_n dX5_readNodes_21 rfl rfl ?_
  refine w_getR dX5_readNodes_22 fl_5_25 okC5 kd_3 (by decide) (by decide) rfl rf_3_0 ?_
  refine w_getI dX5_readNodes_25 fl_5_96 okC9 kd_1 (by decide) (by decide) rfl ?_
  refine w_iconst (v := 1) dX5_readNodes_28 (by decide) ?_
  refine w_callV (st := []) (As := [.int (I 1 3), .int 1]) dX5_readNodes_29 ml_5_97 okX5_fail kd_3 (by decide) rfl rfl rfl (Nat.le_of_ble_eq_true rfl) (by decide) (Nat.le_of_ble_eq_true rfl) (wc_v H (fun I1 H => ?_))
  skip
  exact H
set_option maxRecDepth 20000 in
theorem rX5_readNodes_32 {I : MI} {Q : MI → Prop} (H : (Wv mX5_takeOnce [.ref 3, .int 1] I (fun I1 => (Wi mX5_readNumber [.ref 3, .int 2, .int 10] I1 (fun r3 I2 => (∀ I4 : MI, I4 = up2 I2 4 0 r3 → Q I4)))))) : LX5_readNodes_32  I Q := by
  show WP mX5_readNodes 286 Rf0 32 [some (.ref 3)] [] I (qv Q)
  refine w_aload_n dX5_readNodes_32 rfl rfl ?_
  refine w_iconst (v := 1) dX5_readNodes_33 (by decide) ?_
  refine w_callV (st := []) (As := [.int 1]) dX5_readNodes_34 ml_5_65 okX5_takeOnce kd_3 (by decide) rfl rfl rfl (Nat.le_of_ble_eq_true rfl) (by decide) (Nat.le_of_ble_eq_true rfl) (wc_v H (fun I1 H => ?_))
  refine w_aload_n dX5_readNodes_37 rfl rfl ?_
  refine w_getR dX5_readNodes_38 fl_5_12 okC5 kd_3 (by decide) (by decide) rfl rf_3_1 ?_
  refine w_aload_n dX5_readNodes_41 rfl rfl ?_
  refine w_iconst (v := 2) dX5_readNodes_42 (by decide) ?_
  refine w_bipush (v := 10) dX5_readNodes_43 (by decide) ?_
  refine w_callV (st := [.ref 4]) (As := [.int 2, .int 10]) dX5_readNodes_45 ml_5_68 okX5_readNumber kd_3 (by decide) rfl rfl rfl (Nat.le_of_ble_eq_true rfl) (by decide) (Nat.le_of_ble_eq_true rfl) (wc_i H (fun r3 I2 H => ?_))
  refine w_putI dX5_readNodes_48 fl_5_107 okC6 kd_4 (by decide) (by decide) rfl rfl rfl (w_up fun I4 hI => ?_)
  replace H := H I4 hI
  exact w_vret dX5_readNodes_51 rfl ⟨rfl, H⟩
set_option maxRecDepth 20000 in
theorem rX5_readNodes {I : MI} {Q : MI → Prop} (H : ((0 < (I 4 1) → (LX5_readNodes_20  I Q)) ∧ (¬ 0 < (I 4 1) → (((I 4 2) ≤ 0 → (LX5_readNodes_32  I Q)) ∧ (¬ (I 4 2) ≤ 0 → (LX5_readNodes_20  I Q)))))) : Wv mX5_readNodes [.ref 3] I Q := by
  show WP mX5_readNodes 286 Rf0 0 [some (.ref 3)] [] I (qv Q)
  refine w_aload_n dX5_readNodes_0 rfl rfl ?_
  refine w_getR dX5_readNodes_1 fl_5_12 okC5 kd_3 (by decide) (by decide) rfl rf_3_1 ?_
  refine w_getI dX5_readNodes_4 fl_5_101 okC6 kd_4 (by decide) (by decide) rfl ?_
  refine w_if_gt (t := 20) dX5_readNodes_7 (by decide) (fun h => ?_) (fun h => ?_)
  · replace H := H.1 h
    skip
    exact H
  · replace H := H.2 h
    refine w_aload_n dX5_readNodes_10 rfl rfl ?_
    refine w_getR dX5_readNodes_11 fl_5_12 okC5 kd_3 (by decide) (by decide) rfl rf_3_1 ?_
    refine w_getI dX5_readNodes_14 fl_5_104 okC6 kd_4 (by decide) (by decide) rfl ?_
    refine w_if_le (t := 32) dX5_readNodes_17 (by decide) (fun h => ?_) (fun h => ?_)
    · replace H := H.1 h
      skip
      exact H
    · replace H := H.2 h
      skip
      exact H
theorem dX5_readStreet_0 : decode cX5_readStreet 0 = .ok (.aload_n 0, 1) := by decide +kernel
theorem dX5_readStreet_1 : decode cX5_readStreet 1 = .ok (.getfield 12, 3) := by decide +kernel
theorem dX5_readStreet_4 : decode cX5_readStreet 4 = .ok (.getfield 101, 3) := by decide +kernel
theorem dX5_readStreet_7 : decode cX5_readStreet 7 = .ok (.istore_n 1, 1) := by decide +kernel
theorem dX5_readStreet_8 : decode cX5_readStreet 8 = .ok (.iload_n 1, 1) := by decide +kernel
theorem dX5_readStreet_9 : decode cX5_readStreet 9 = .ok (.bipush 18, 2) := by decide +kernel
theorem dX5_readStreet_11 : decode cX5_readStreet 11 = .ok (.if_icmp .lt 16, 3) := by decide +kernel
theorem dX5_readStreet_14 : decode cX5_readStreet 14 = .ok (.aload_n 0, 1) := by decide +kernel
theorem dX5_readStreet_15 : decode cX5_readStreet 15 = .ok (.aload_n 0, 1) := by decide +kernel
theorem dX5_readStreet_16 : decode cX5_readStreet 16 = .ok (.getfield 25, 3) := by decide +kernel
theorem dX5_readStreet_19 : decode cX5_readStreet 19 = .ok (.getfield 96, 3) := by decide +kernel
theorem dX5_readStreet_22 : decode cX5_readStreet 22 = .ok (.iconst 4, 1) := by decide +kernel
theorem dX5_readStreet_23 : decode cX5_readStreet 23 = .ok (.invokevirtual 97, 3) := by decide +kernel
theorem dX5_readStreet_26 : decode cX5_readStreet 26 = .ok (.return_, 1) := by decide +kernel
theorem dX5_readStreet_27 : decode cX5_readStreet 27 = .ok (.aload_n 0, 1) := by decide +kernel
theorem dX5_readStreet_28 : decode cX5_readStreet 28 = .ok (.getfield 25, 3) := by decide +kernel
theorem dX5_readStreet_31 : decode cX5_readStreet 31 = .ok (.invokevirtual 110, 3) := by decide +kernel
theorem dX5_readStreet_34 : decode cX5_readStreet 34 = .ok (.aload_n 0, 1) := by decide +kernel
theorem dX5_readStreet_35 : decode cX5_readStreet 35 = .ok (.iconst 0, 1) := by decide +kernel
theorem dX5_readStreet_36 : decode cX5_readStreet 36 = .ok (.aload_n 0, 1) := by decide +kernel
theorem dX5_readStreet_37 : decode cX5_readStreet 37 = .ok (.getfield 12, 3) := by decide +kernel
theorem dX5_readStreet_40 : decode cX5_readStreet 40 = .ok (.getfield 107, 3) := by decide +kernel
theorem dX5_readStreet_43 : decode cX5_readStreet 43 = .ok (.iconst 1, 1) := by decide +kernel
theorem dX5_readStreet_44 : decode cX5_readStreet 44 = .ok (.isub, 1) := by decide +kernel
theorem dX5_readStreet_45 : decode cX5_readStreet 45 = .ok (.invokevirtual 68, 3) := by decide +kernel
theorem dX5_readStreet_48 : decode cX5_readStreet 48 = .ok (.istore_n 2, 1) := by decide +kernel
theorem dX5_readStreet_49 : decode cX5_readStreet 49 = .ok (.aload_n 0, 1) := by decide +kernel
theorem dX5_readStreet_50 : decode cX5_readStreet 50 = .ok (.getfield 25, 3) := by decide +kernel
theorem dX5_readStreet_53 : decode cX5_readStreet 53 = .ok (.getfield 96, 3) := by decide +kernel
theorem dX5_readStreet_56 : decode cX5_readStreet 56 = .ok (.istore_n 3, 1) := by decide +kernel
theorem dX5_readStreet_57 : decode cX5_readStreet 57 = .ok (.aload_n 0, 1) := by decide +kernel
theorem dX5_readStreet_58 : decode cX5_readStreet 58 = .ok (.iconst 0, 1) := by decide +kernel
theorem dX5_readStreet_59 : decode cX5_readStreet 59 = .ok (.aload_n 0, 1) := by decide +kernel
theorem dX5_readStreet_60 : decode cX5_readStreet 60 = .ok (.getfield 12, 3) := by decide +kernel
theorem dX5_readStreet_63 : decode cX5_readStreet 63 = .ok (.getfield 107, 3) := by decide +kernel
theorem dX5_readStreet_66 : decode cX5_readStreet 66 = .ok (.iconst 1, 1) := by decide +kernel
theorem dX5_readStreet_67 : decode cX5_readStreet 67 = .ok (.isub, 1) := by decide +kernel
theorem dX5_readStreet_68 : decode cX5_readStreet 68 = .ok (.invokevirtual 68, 3) := by decide +kernel
theorem dX5_readStreet_71 : decode cX5_readStreet 71 = .ok (.istore 4, 2) := by decide +kernel
theorem dX5_readStreet_73 : decode cX5_readStreet 73 = .ok (.iload 4, 2) := by decide +kernel
theorem dX5_readStreet_75 : decode cX5_readStreet 75 = .ok (.iload_n 2, 1) := by decide +kernel
theorem dX5_readStreet_76 : decode cX5_readStreet 76 = .ok (.if_icmp .eq 16, 3) := by decide +kernel
theorem dX5_readStreet_79 : decode cX5_readStreet 79 = .ok (.aload_n 0, 1) := by decide +kernel
theorem dX5_readStreet_80 : decode cX5_readStreet 80 = .ok (.getfield 12, 3) := by decide +kernel
theorem dX5_readStreet_83 : decode cX5_readStreet 83 = .ok (.iload_n 2, 1) := by decide +kernel
theorem dX5_readStreet_84 : decode cX5_readStreet 84 = .ok (.iload 4, 2) := by decide +kernel
theorem dX5_readStreet_86 : decode cX5_readStreet 86 = .ok (.invokevirtual 113, 3) := by decide +kernel
theorem dX5_readStreet_89 : decode cX5_readStreet 89 = .ok (.ifCond .eq 9, 3) := by decide +kernel
theorem dX5_readStreet_92 : decode cX5_readStreet 92 = .ok (.aload_n 0, 1) := by decide +kernel
theorem dX5_readStreet_93 : decode cX5_readStreet 93 = .ok (.iload_n 3, 1) := by decide +kernel
theorem dX5_readStreet_94 : decode cX5_readStreet 94 = .ok (.iconst 3, 1) := by decide +kernel
theorem dX5_readStreet_95 : decode cX5_readStreet 95 = .ok (.invokevirtual 97, 3) := by decide +kernel
theorem dX5_readStreet_98 : decode cX5_readStreet 98 = .ok (.aload_n 0, 1) := by decide +kernel
theorem dX5_readStreet_99 : decode cX5_readStreet 99 = .ok (.getfield 12, 3) := by decide +kernel
theorem dX5_readStreet_102 : decode cX5_readStreet 102 = .ok (.getfield 117, 3) := by decide +kernel
theorem dX5_readStreet_105 : decode cX5_readStreet 105 = .ok (.iload_n 1, 1) := by decide +kernel
theorem dX5_readStreet_106 : decode cX5_readStreet 106 = .ok (.iload_n 2, 1) := by decide +kernel
theorem dX5_readStreet_107 : decode cX5_readStreet 107 = .ok (.iastore, 1) := by decide +kernel
theorem dX5_readStreet_108 : decode cX5_readStreet 108 = .ok (.aload_n 0, 1) := by decide +kernel
theorem dX5_readStreet_109 : decode cX5_readStreet 109 = .ok (.getfield 12, 3) := by decide +kernel
theorem dX5_readStreet_112 : decode cX5_readStreet 112 = .ok (.getfield 121, 3) := by decide +kernel
theorem dX5_readStreet_115 : decode cX5_readStreet 115 = .ok (.iload_n 1, 1) := by decide +kernel
theorem dX5_readStreet_116 : decode cX5_readStreet 116 = .ok (.iload 4, 2) := by decide +kernel
theorem dX5_readStreet_118 : decode cX5_readStreet 118 = .ok (.iastore, 1) := by decide +kernel
theorem dX5_readStreet_119 : decode cX5_readStreet 119 = .ok (.aload_n 0, 1) := by decide +kernel
theorem dX5_readStreet_120 : decode cX5_readStreet 120 = .ok (.getfield 12, 3) := by decide +kernel
theorem dX5_readStreet_123 : decode cX5_readStreet 123 = .ok (.getfield 124, 3) := by decide +kernel
theorem dX5_readStreet_126 : decode cX5_readStreet 126 = .ok (.iload_n 1, 1) := by decide +kernel
theorem dX5_readStreet_127 : decode cX5_readStreet 127 = .ok (.aload_n 0, 1) := by decide +kernel
theorem dX5_readStreet_128 : decode cX5_readStreet 128 = .ok (.iconst 1, 1) := by decide +kernel
theorem dX5_readStreet_129 : decode cX5_readStreet 129 = .ok (.bipush 99, 2) := by decide +kernel
theorem dX5_readStreet_131 : decode cX5_readStreet 131 = .ok (.invokevirtual 68, 3) := by decide +kernel
theorem dX5_readStreet_134 : decode cX5_readStreet 134 = .ok (.iastore, 1) := by decide +kernel
theorem dX5_readStreet_135 : decode cX5_readStreet 135 = .ok (.aload_n 0, 1) := by decide +kernel
theorem dX5_readStreet_136 : decode cX5_readStreet 136 = .ok (.iload_n 1, 1) := by decide +kernel
theorem dX5_readStreet_137 : decode cX5_readStreet 137 = .ok (.invokevirtual 127, 3) := by decide +kernel
theorem dX5_readStreet_140 : decode cX5_readStreet 140 = .ok (.aload_n 0, 1) := by decide +kernel
theorem dX5_readStreet_141 : decode cX5_readStreet 141 = .ok (.getfield 12, 3) := by decide +kernel
theorem dX5_readStreet_144 : decode cX5_readStreet 144 = .ok (.dup, 1) := by decide +kernel
theorem dX5_readStreet_145 : decode cX5_readStreet 145 = .ok (.getfield 101, 3) := by decide +kernel
theorem dX5_readStreet_148 : decode cX5_readStreet 148 = .ok (.iconst 1, 1) := by decide +kernel
theorem dX5_readStreet_149 : decode cX5_readStreet 149 = .ok (.iadd, 1) := by decide +kernel
theorem dX5_readStreet_150 : decode cX5_readStreet 150 = .ok (.putfield 101, 3) := by decide +kernel
theorem dX5_readStreet_153 : decode cX5_readStreet 153 = .ok (.return_, 1) := by decide +kernel
abbrev LX5_readStreet_92 (l1 l2 l3 l4 : Int32) (I : MI) (Q : MI → Prop) : Prop := WP mX5_readStreet 286 Rf0 92 [some (.ref 3), some (.int l1), some (.int l2), some (.int l3), some (.int l4)] [] I (qv Q)
abbrev LX5_readStreet_98 (l1 l2 l3 l4 : Int32) (I : MI) (Q : MI → Prop) : Prop := WP mX5_readStreet 286 Rf0 98 [some (.ref 3), some (.int l1), some (.int l2), some (.int l3), some (.int l4)] [] I (qv Q)
set_option maxRecDepth 20000 in
theorem rX5_readStreet_92 {l1 l2 l3 l4 : Int32} {I : MI} {Q : MI → Prop} (H : (Wv mX5_fail [.ref 3, .int l3, .int 3] I (fun I1 => (LX5_readStreet_98 l1 l2 l3 l4 I1 Q)))) : LX5_readStreet_92 l1 l2 l3 l4 I Q := by
  show WP mX5_readStreet 286 Rf0 92 [some (.ref 3), some (.int l1), some (.int l2), some (.int l3), some (.int l4)] [] I (qv Q)
  refine w_aload_n dX5_readStreet_92 rfl rfl ?_
  refine w_iload_n dX5_readStreet_93 rfl rfl ?_
  refine w_iconst (v := 3) dX5_readStreet_94 (by decide) ?_
  refine w_callV (st := []) (As := [.int l3, .int 3]) dX5_readStreet_95 ml_5_97 okX5_fail kd_3 (by decide) rfl rfl rfl (Nat.le_of_ble_eq_true rfl) (by decide) (Nat.le_of_ble_eq_true rfl) (wc_v H (fun I1 H => ?_))
  skip
  exact H
set_option maxRecDepth 20000 in
theorem rX5_readStreet_98 {l1 l2 l3 l4 : Int32} {I : MI} {Q : MI → Prop} (H : (vp_in l1 18 ∧ ∀ I1 : MI, I1 = up2 I 5 l1.toNatClampNeg l2 → vp_in l1 18 ∧ ∀ I2 : MI, I2 = up2 I1 6 l1.toNatClampNeg l4 → Wi mX5_readNumber [.ref 3, .int 1, .int 99] I2 (fun r4 I3 => (vp_in l1 18 ∧ ∀ I5 : MI, I5 = up2 I3 7 l1.toNatClampNeg r4 → Wv mX5_readGate [.ref 3, .int l1] I5 (fun I6 => (∀ I7 : MI, I7 = up2 I6 4 1 ((I6 4 1) + 1) → Q I7)))))) : LX5_readStreet_98 l1 l2 l3 l4 I Q := by
  show WP mX5_readStreet 286 Rf0 98 [some (.ref 3), some (.int l1), some (.int l2), some (.int l3), some (.int l4)] [] I (qv Q)
  refine w_aload_n dX5_readStreet_98 rfl rfl ?_
  refine w_getR dX5_readStreet_99 fl_5_12 okC5 kd_3 (by decide) (by decide) rfl rf_3_1 ?_
  refine w_getR dX5_readStreet_102 fl_5_117 okC6 kd_4 (by decide) (by decide) rfl rf_4_7 ?_
  refine w_iload_n dX5_readStreet_105 rfl rfl ?_
  refine w_iload_n dX5_readStreet_106 rfl rfl ?_
  refine w_iast dX5_readStreet_107 kd_5 (by decide) H.1 (w_up fun I1 hI => ?_)
  replace H := H.2 I1 hI
  refine w_aload_n dX5_readStreet_108 rfl rfl ?_
  refine w_getR dX5_readStreet_109 fl_5_12 okC5 kd_3 (by decide) (by decide) rfl rf_3_1 ?_
  refine w_getR dX5_readStreet_112 fl_5_121 okC6 kd_4 (by decide) (by decide) rfl rf_4_8 ?_
  refine w_iload_n dX5_readStreet_115 rfl rfl ?_
  refine w_iload dX5_readStreet_116 rfl ?_
  refine w_iast dX5_readStreet_118 kd_6 (by decide) H.1 (w_up fun I2 hI => ?_)
  replace H := H.2 I2 hI
  refine w_aload_n dX5_readStreet_119 rfl rfl ?_
  refine w_getR dX5_readStreet_120 fl_5_12 okC5 kd_3 (by decide) (by decide) rfl rf_3_1 ?_
  refine w_getR dX5_readStreet_123 fl_5_124 okC6 kd_4 (by decide) (by decide) rfl rf_4_9 ?_
  refine w_iload_n dX5_readStreet_126 rfl rfl ?_
  refine w_aload_n dX5_readStreet_127 rfl rfl ?_
  refine w_iconst (v := 1) dX5_readStreet_128 (by decide) ?_
  refine w_bipush (v := 99) dX5_readStreet_129 (by decide) ?_
  refine w_callV (st := [.int l1, .ref 7]) (As := [.int 1, .int 99]) dX5_readStreet_131 ml_5_68 okX5_readNumber kd_3 (by decide) rfl rfl rfl (Nat.le_of_ble_eq_true rfl) (by decide) (Nat.le_of_ble_eq_true rfl) (wc_i H (fun r4 I3 H => ?_))
  refine w_iast dX5_readStreet_134 kd_7 (by decide) H.1 (w_up fun I5 hI => ?_)
  replace H := H.2 I5 hI
  refine w_aload_n dX5_readStreet_135 rfl rfl ?_
  refine w_iload_n dX5_readStreet_136 rfl rfl ?_
  refine w_callV (st := []) (As := [.int l1]) dX5_readStreet_137 ml_5_127 okX5_readGate kd_3 (by decide) rfl rfl rfl (Nat.le_of_ble_eq_true rfl) (by decide) (Nat.le_of_ble_eq_true rfl) (wc_v H (fun I6 H => ?_))
  refine w_aload_n dX5_readStreet_140 rfl rfl ?_
  refine w_getR dX5_readStreet_141 fl_5_12 okC5 kd_3 (by decide) (by decide) rfl rf_3_1 ?_
  refine w_dup dX5_readStreet_144 rfl ?_
  refine w_getI dX5_readStreet_145 fl_5_101 okC6 kd_4 (by decide) (by decide) rfl ?_
  refine w_iconst (v := 1) dX5_readStreet_148 (by decide) ?_
  refine w_iadd dX5_readStreet_149 ?_
  refine w_putI dX5_readStreet_150 fl_5_101 okC6 kd_4 (by decide) (by decide) rfl rfl rfl (w_up fun I7 hI => ?_)
  replace H := H I7 hI
  exact w_vret dX5_readStreet_153 rfl ⟨rfl, H⟩
set_option maxRecDepth 20000 in
theorem rX5_readStreet {I : MI} {Q : MI → Prop} (H : (((I 4 1) < 18 → (Wv mX9_advance [.ref 1] I (fun I1 => (Wi mX5_readNumber [.ref 3, .int 0, .int ((I1 4 0) - 1)] I1 (fun r3 I2 => (Wi mX5_readNumber [.ref 3, .int 0, .int ((I2 4 0) - 1)] I2 (fun r5 I4 => ((r5 = r3 → (LX5_readStreet_92 (I 4 1) r3 (I2 1 3) r5 I4 Q)) ∧ (¬ r5 = r3 → (Wi mX6_joins [.ref 4, .int r3, .int r5] I4 (fun r7 I6 => ((r7 = 0 → (LX5_readStreet_98 (I 4 1) r3 (I2 1 3) r5 I6 Q)) ∧ (¬ r7 = 0 → (LX5_readStreet_92 (I 4 1) r3 (I2 1 3) r5 I6 Q)))))))))))))) ∧ (¬ (I 4 1) < 18 → (Wv mX5_fail [.ref 3, .int (I 1 3), .int 4] I (fun I1 => (Q I1)))))) : Wv mX5_readStreet [.ref 3] I Q := by
  show WP mX5_readStreet 286 Rf0 0 [some (.ref 3), none, none, none, none] [] I (qv Q)
  refine w_aload_n dX5_readStreet_0 rfl rfl ?_
  refine w_getR dX5_readStreet_1 fl_5_12 okC5 kd_3 (by decide) (by decide) rfl rf_3_1 ?_
  refine w_getI dX5_readStreet_4 fl_5_101 okC6 kd_4 (by decide) (by decide) rfl ?_
  refine w_istore_n (ls' := [some (.ref 3), some (.int (I 4 1)), none, none, none]) dX5_readStreet_7 rfl (by decide) rfl rfl ?_
  refine w_iload_n dX5_readStreet_8 rfl rfl ?_
  refine w_bipush (v := 18) dX5_readStreet_9 (by decide) ?_
  refine w_icmp_lt (t := 27) dX5_readStreet_11 (by decide) (fun h => ?_) (fun h => ?_)
  · replace H := H.1 h
    refine w_aload_n dX5_readStreet_27 rfl rfl ?_
    refine w_getR dX5_readStreet_28 fl_5_25 okC5 kd_3 (by decide) (by decide) rfl rf_3_0 ?_
    refine w_callV (st := []) (As := []) dX5_readStreet_31 ml_5_110 okX9_advance kd_1 (by decide) rfl rfl rfl (Nat.le_of_ble_eq_true rfl) (by decide) (Nat.le_of_ble_eq_true rfl) (wc_v H (fun I1 H => ?_))
    refine w_aload_n dX5_readStreet_34 rfl rfl ?_
    refine w_iconst (v := 0) dX5_readStreet_35 (by decide) ?_
    refine w_aload_n dX5_readStreet_36 rfl rfl ?_
    refine w_getR dX5_readStreet_37 fl_5_12 okC5 kd_3 (by decide) (by decide) rfl rf_3_1 ?_
    refine w_getI dX5_readStreet_40 fl_5_107 okC6 kd_4 (by decide) (by decide) rfl ?_
    refine w_iconst (v := 1) dX5_readStreet_43 (by decide) ?_
    refine w_isub dX5_readStreet_44 ?_
    refine w_callV (st := []) (As := [.int 0, .int ((I1 4 0) - 1)]) dX5_readStreet_45 ml_5_68 okX5_readNumber kd_3 (by decide) rfl rfl rfl (Nat.le_of_ble_eq_true rfl) (by decide) (Nat.le_of_ble_eq_true rfl) (wc_i H (fun r3 I2 H => ?_))
    refine w_istore_n (ls' := [some (.ref 3), some (.int (I 4 1)), some (.int r3), none, none]) dX5_readStreet_48 rfl (by decide) rfl rfl ?_
    refine w_aload_n dX5_readStreet_49 rfl rfl ?_
    refine w_getR dX5_readStreet_50 fl_5_25 okC5 kd_3 (by decide) (by decide) rfl rf_3_0 ?_
    refine w_getI dX5_readStreet_53 fl_5_96 okC9 kd_1 (by decide) (by decide) rfl ?_
    refine w_istore_n (ls' := [some (.ref 3), some (.int (I 4 1)), some (.int r3), some (.int (I2 1 3)), none]) dX5_readStreet_56 rfl (by decide) rfl rfl ?_
    refine w_aload_n dX5_readStreet_57 rfl rfl ?_
    refine w_iconst (v := 0) dX5_readStreet_58 (by decide) ?_
    refine w_aload_n dX5_readStreet_59 rfl rfl ?_
    refine w_getR dX5_readStreet_60 fl_5_12 okC5 kd_3 (by decide) (by decide) rfl rf_3_1 ?_
    refine w_getI dX5_readStreet_63 fl_5_107 okC6 kd_4 (by decide) (by decide) rfl ?_
    refine w_iconst (v := 1) dX5_readStreet_66 (by decide) ?_
    refine w_isub dX5_readStreet_67 ?_
    refine w_callV (st := []) (As := [.int 0, .int ((I2 4 0) - 1)]) dX5_readStreet_68 ml_5_68 okX5_readNumber kd_3 (by decide) rfl rfl rfl (Nat.le_of_ble_eq_true rfl) (by decide) (Nat.le_of_ble_eq_true rfl) (wc_i H (fun r5 I4 H => ?_))
    refine w_istore (ls' := [some (.ref 3), some (.int (I 4 1)), some (.int r3), some (.int (I2 1 3)), some (.int r5)]) dX5_readStreet_71 (by decide) rfl rfl ?_
    refine w_iload dX5_readStreet_73 rfl ?_
    refine w_iload_n dX5_readStreet_75 rfl rfl ?_
    refine w_icmp_eq (t := 92) dX5_readStreet_76 (by decide) (fun h => ?_) (fun h => ?_)
    · replace H := H.1 h
      skip
      exact H
    · replace H := H.2 h
      refine w_aload_n dX5_readStreet_79 rfl rfl ?_
      refine w_getR dX5_readStreet_80 fl_5_12 okC5 kd_3 (by decide) (by decide) rfl rf_3_1 ?_
      refine w_iload_n dX5_readStreet_83 rfl rfl ?_
      refine w_iload dX5_readStreet_84 rfl ?_
      refine w_callV (st := []) (As := [.int r3, .int r5]) dX5_readStreet_86 ml_5_113 okX6_joins kd_4 (by decide) rfl rfl rfl (Nat.le_of_ble_eq_true rfl) (by decide) (Nat.le_of_ble_eq_true rfl) (wc_i H (fun r7 I6 H => ?_))
      refine w_if_eq (t := 98) dX5_readStreet_89 (by decide) (fun h => ?_) (fun h => ?_)
      · replace H := H.1 h
        skip
        exact H
      · replace H := H.2 h
        skip
        exact H
  · replace H := H.2 h
    refine w_aload_n dX5_readStreet_14 rfl rfl ?_
    refine w_aload_n dX5_readStreet_15 rfl rfl ?_
    refine w_getR dX5_readStreet_16 fl_5_25 okC5 kd_3 (by decide) (by decide) rfl rf_3_0 ?_
    refine w_getI dX5_readStreet_19 fl_5_96 okC9 kd_1 (by decide) (by decide) rfl ?_
    refine w_iconst (v := 4) dX5_readStreet_22 (by decide) ?_
    refine w_callV (st := []) (As := [.int (I 1 3), .int 4]) dX5_readStreet_23 ml_5_97 okX5_fail kd_3 (by decide) rfl rfl rfl (Nat.le_of_ble_eq_true rfl) (by decide) (Nat.le_of_ble_eq_true rfl) (wc_v H (fun I1 H => ?_))
    exact w_vret dX5_readStreet_26 rfl ⟨rfl, H⟩
theorem dX5_readGate_0 : decode cX5_readGate 0 = .ok (.aload_n 0, 1) := by decide +kernel
theorem dX5_readGate_1 : decode cX5_readGate 1 = .ok (.getfield 21, 3) := by decide +kernel
theorem dX5_readGate_4 : decode cX5_readGate 4 = .ok (.getfield 130, 3) := by decide +kernel
theorem dX5_readGate_7 : decode cX5_readGate 7 = .ok (.iload_n 1, 1) := by decide +kernel
theorem dX5_readGate_8 : decode cX5_readGate 8 = .ok (.iconst 0, 1) := by decide +kernel
theorem dX5_readGate_9 : decode cX5_readGate 9 = .ok (.iastore, 1) := by decide +kernel
theorem dX5_readGate_10 : decode cX5_readGate 10 = .ok (.aload_n 0, 1) := by decide +kernel
theorem dX5_readGate_11 : decode cX5_readGate 11 = .ok (.getfield 21, 3) := by decide +kernel
theorem dX5_readGate_14 : decode cX5_readGate 14 = .ok (.getfield 133, 3) := by decide +kernel
theorem dX5_readGate_17 : decode cX5_readGate 17 = .ok (.iload_n 1, 1) := by decide +kernel
theorem dX5_readGate_18 : decode cX5_readGate 18 = .ok (.iconst 0, 1) := by decide +kernel
theorem dX5_readGate_19 : decode cX5_readGate 19 = .ok (.iastore, 1) := by decide +kernel
theorem dX5_readGate_20 : decode cX5_readGate 20 = .ok (.aload_n 0, 1) := by decide +kernel
theorem dX5_readGate_21 : decode cX5_readGate 21 = .ok (.getfield 25, 3) := by decide +kernel
theorem dX5_readGate_24 : decode cX5_readGate 24 = .ok (.ldc 136, 2) := by decide +kernel
theorem dX5_readGate_26 : decode cX5_readGate 26 = .ok (.invokevirtual 56, 3) := by decide +kernel
theorem dX5_readGate_29 : decode cX5_readGate 29 = .ok (.ifCond .eq 54, 3) := by decide +kernel
theorem dX5_readGate_32 : decode cX5_readGate 32 = .ok (.aload_n 0, 1) := by decide +kernel
theorem dX5_readGate_33 : decode cX5_readGate 33 = .ok (.getfield 25, 3) := by decide +kernel
theorem dX5_readGate_36 : decode cX5_readGate 36 = .ok (.invokevirtual 110, 3) := by decide +kernel
theorem dX5_readGate_39 : decode cX5_readGate 39 = .ok (.aload_n 0, 1) := by decide +kernel
theorem dX5_readGate_40 : decode cX5_readGate 40 = .ok (.getfield 21, 3) := by decide +kernel
theorem dX5_readGate_43 : decode cX5_readGate 43 = .ok (.getfield 130, 3) := by decide +kernel
theorem dX5_readGate_46 : decode cX5_readGate 46 = .ok (.iload_n 1, 1) := by decide +kernel
theorem dX5_readGate_47 : decode cX5_readGate 47 = .ok (.aload_n 0, 1) := by decide +kernel
theorem dX5_readGate_48 : decode cX5_readGate 48 = .ok (.iconst 0, 1) := by decide +kernel
theorem dX5_readGate_49 : decode cX5_readGate 49 = .ok (.sipush 1439, 3) := by decide +kernel
theorem dX5_readGate_52 : decode cX5_readGate 52 = .ok (.invokevirtual 68, 3) := by decide +kernel
theorem dX5_readGate_55 : decode cX5_readGate 55 = .ok (.iastore, 1) := by decide +kernel
theorem dX5_readGate_56 : decode cX5_readGate 56 = .ok (.aload_n 0, 1) := by decide +kernel
theorem dX5_readGate_57 : decode cX5_readGate 57 = .ok (.getfield 21, 3) := by decide +kernel
theorem dX5_readGate_60 : decode cX5_readGate 60 = .ok (.getfield 133, 3) := by decide +kernel
theorem dX5_readGate_63 : decode cX5_readGate 63 = .ok (.iload_n 1, 1) := by decide +kernel
theorem dX5_readGate_64 : decode cX5_readGate 64 = .ok (.aload_n 0, 1) := by decide +kernel
theorem dX5_readGate_65 : decode cX5_readGate 65 = .ok (.aload_n 0, 1) := by decide +kernel
theorem dX5_readGate_66 : decode cX5_readGate 66 = .ok (.getfield 21, 3) := by decide +kernel
theorem dX5_readGate_69 : decode cX5_readGate 69 = .ok (.getfield 130, 3) := by decide +kernel
theorem dX5_readGate_72 : decode cX5_readGate 72 = .ok (.iload_n 1, 1) := by decide +kernel
theorem dX5_readGate_73 : decode cX5_readGate 73 = .ok (.iaload, 1) := by decide +kernel
theorem dX5_readGate_74 : decode cX5_readGate 74 = .ok (.iconst 1, 1) := by decide +kernel
theorem dX5_readGate_75 : decode cX5_readGate 75 = .ok (.iadd, 1) := by decide +kernel
theorem dX5_readGate_76 : decode cX5_readGate 76 = .ok (.sipush 1440, 3) := by decide +kernel
theorem dX5_readGate_79 : decode cX5_readGate 79 = .ok (.invokevirtual 68, 3) := by decide +kernel
theorem dX5_readGate_82 : decode cX5_readGate 82 = .ok (.iastore, 1) := by decide +kernel
theorem dX5_readGate_83 : decode cX5_readGate 83 = .ok (.return_, 1) := by decide +kernel
set_option maxRecDepth 20000 in
theorem rX5_readGate {a1 : Int32} {I : MI} {Q : MI → Prop} (H : (vp_in a1 18 ∧ ∀ I1 : MI, I1 = up2 I 13 a1.toNatClampNeg 0 → vp_in a1 18 ∧ ∀ I2 : MI, I2 = up2 I1 14 a1.toNatClampNeg 0 → Wi mX9_isWord [.ref 1, .retAddr (2 * 6 + 1)] I2 (fun r4 I3 => ((r4 = 0 → (Q I3)) ∧ (¬ r4 = 0 → (Wv mX9_advance [.ref 1] I3 (fun I5 => (Wi mX5_readNumber [.ref 3, .int 0, .int 1439] I5 (fun r7 I6 => (vp_in a1 18 ∧ ∀ I8 : MI, I8 = up2 I6 13 a1.toNatClampNeg r7 → vp_in a1 18 ∧ Wi mX5_readNumber [.ref 3, .int ((I8 13 a1.toNatClampNeg) + 1), .int 1440] I8 (fun r10 I9 => (vp_in a1 18 ∧ ∀ I11 : MI, I11 = up2 I9 14 a1.toNatClampNeg r10 → Q I11)))))))))))) : Wv mX5_readGate [.ref 3, .int a1] I Q := by
  show WP mX5_readGate 286 Rf0 0 [some (.ref 3), some (.int a1)] [] I (qv Q)
  refine w_aload_n dX5_readGate_0 rfl rfl ?_
  refine w_getR dX5_readGate_1 fl_5_21 okC5 kd_3 (by decide) (by decide) rfl rf_3_2 ?_
  refine w_getR dX5_readGate_4 fl_5_130 okC8 kd_10 (by decide) (by decide) rfl rf_10_4 ?_
  refine w_iload_n dX5_readGate_7 rfl rfl ?_
  refine w_iconst (v := 0) dX5_readGate_8 (by decide) ?_
  refine w_iast dX5_readGate_9 kd_13 (by decide) H.1 (w_up fun I1 hI => ?_)
  replace H := H.2 I1 hI
  refine w_aload_n dX5_readGate_10 rfl rfl ?_
  refine w_getR dX5_readGate_11 fl_5_21 okC5 kd_3 (by decide) (by decide) rfl rf_3_2 ?_
  refine w_getR dX5_readGate_14 fl_5_133 okC8 kd_10 (by decide) (by decide) rfl rf_10_5 ?_
  refine w_iload_n dX5_readGate_17 rfl rfl ?_
  refine w_iconst (v := 0) dX5_readGate_18 (by decide) ?_
  refine w_iast dX5_readGate_19 kd_14 (by decide) H.1 (w_up fun I2 hI => ?_)
  replace H := H.2 I2 hI
  refine w_aload_n dX5_readGate_20 rfl rfl ?_
  refine w_getR dX5_readGate_21 fl_5_25 okC5 kd_3 (by decide) (by decide) rfl rf_3_0 ?_
  refine w_ldcS (j := 6) (tx := "gate") dX5_readGate_24 (by decide +kernel) ?_
  refine w_callV (st := []) (As := [.retAddr (2 * 6 + 1)]) dX5_readGate_26 ml_5_56 okX9_isWord kd_1 (by decide) rfl rfl rfl (Nat.le_of_ble_eq_true rfl) (by decide) (Nat.le_of_ble_eq_true rfl) (wc_i H (fun r4 I3 H => ?_))
  refine w_if_eq (t := 83) dX5_readGate_29 (by decide) (fun h => ?_) (fun h => ?_)
  · replace H := H.1 h
    exact w_vret dX5_readGate_83 rfl ⟨rfl, H⟩
  · replace H := H.2 h
    refine w_aload_n dX5_readGate_32 rfl rfl ?_
    refine w_getR dX5_readGate_33 fl_5_25 okC5 kd_3 (by decide) (by decide) rfl rf_3_0 ?_
    refine w_callV (st := []) (As := []) dX5_readGate_36 ml_5_110 okX9_advance kd_1 (by decide) rfl rfl rfl (Nat.le_of_ble_eq_true rfl) (by decide) (Nat.le_of_ble_eq_true rfl) (wc_v H (fun I5 H => ?_))
    refine w_aload_n dX5_readGate_39 rfl rfl ?_
    refine w_getR dX5_readGate_40 fl_5_21 okC5 kd_3 (by decide) (by decide) rfl rf_3_2 ?_
    refine w_getR dX5_readGate_43 fl_5_130 okC8 kd_10 (by decide) (by decide) rfl rf_10_4 ?_
    refine w_iload_n dX5_readGate_46 rfl rfl ?_
    refine w_aload_n dX5_readGate_47 rfl rfl ?_
    refine w_iconst (v := 0) dX5_readGate_48 (by decide) ?_
    refine w_sipush (v := 1439) dX5_readGate_49 (by decide) ?_
    refine w_callV (st := [.int a1, .ref 13]) (As := [.int 0, .int 1439]) dX5_readGate_52 ml_5_68 okX5_readNumber kd_3 (by decide) rfl rfl rfl (Nat.le_of_ble_eq_true rfl) (by decide) (Nat.le_of_ble_eq_true rfl) (wc_i H (fun r7 I6 H => ?_))
    refine w_iast dX5_readGate_55 kd_13 (by decide) H.1 (w_up fun I8 hI => ?_)
    replace H := H.2 I8 hI
    refine w_aload_n dX5_readGate_56 rfl rfl ?_
    refine w_getR dX5_readGate_57 fl_5_21 okC5 kd_3 (by decide) (by decide) rfl rf_3_2 ?_
    refine w_getR dX5_readGate_60 fl_5_133 okC8 kd_10 (by decide) (by decide) rfl rf_10_5 ?_
    refine w_iload_n dX5_readGate_63 rfl rfl ?_
    refine w_aload_n dX5_readGate_64 rfl rfl ?_
    refine w_aload_n dX5_readGate_65 rfl rfl ?_
    refine w_getR dX5_readGate_66 fl_5_21 okC5 kd_3 (by decide) (by decide) rfl rf_3_2 ?_
    refine w_getR dX5_readGate_69 fl_5_130 okC8 kd_10 (by decide) (by decide) rfl rf_10_4 ?_
    refine w_iload_n dX5_readGate_72 rfl rfl ?_
    refine w_iald dX5_readGate_73 kd_13 (by decide) H.1 ?_
    replace H := H.2
    refine w_iconst (v := 1) dX5_readGate_74 (by decide) ?_
    refine w_iadd dX5_readGate_75 ?_
    refine w_sipush (v := 1440) dX5_readGate_76 (by decide) ?_
    refine w_callV (st := [.int a1, .ref 14]) (As := [.int ((I8 13 a1.toNatClampNeg) + 1), .int 1440]) dX5_readGate_79 ml_5_68 okX5_readNumber kd_3 (by decide) rfl rfl rfl (Nat.le_of_ble_eq_true rfl) (by decide) (Nat.le_of_ble_eq_true rfl) (wc_i H (fun r10 I9 H => ?_))
    refine w_iast dX5_readGate_82 kd_14 (by decide) H.1 (w_up fun I11 hI => ?_)
    replace H := H.2 I11 hI
    exact w_vret dX5_readGate_83 rfl ⟨rfl, H⟩
theorem dX5_readHouse_0 : decode cX5_readHouse 0 = .ok (.aload_n 0, 1) := by decide +kernel
theorem dX5_readHouse_1 : decode cX5_readHouse 1 = .ok (.getfield 12, 3) := by decide +kernel
theorem dX5_readHouse_4 : decode cX5_readHouse 4 = .ok (.getfield 104, 3) := by decide +kernel
theorem dX5_readHouse_7 : decode cX5_readHouse 7 = .ok (.istore_n 1, 1) := by decide +kernel
theorem dX5_readHouse_8 : decode cX5_readHouse 8 = .ok (.iload_n 1, 1) := by decide +kernel
theorem dX5_readHouse_9 : decode cX5_readHouse 9 = .ok (.bipush 12, 2) := by decide +kernel
theorem dX5_readHouse_11 : decode cX5_readHouse 11 = .ok (.if_icmp .lt 16, 3) := by decide +kernel
theorem dX5_readHouse_14 : decode cX5_readHouse 14 = .ok (.aload_n 0, 1) := by decide +kernel
theorem dX5_readHouse_15 : decode cX5_readHouse 15 = .ok (.aload_n 0, 1) := by decide +kernel
theorem dX5_readHouse_16 : decode cX5_readHouse 16 = .ok (.getfield 25, 3) := by decide +kernel
theorem dX5_readHouse_19 : decode cX5_readHouse 19 = .ok (.getfield 96, 3) := by decide +kernel
theorem dX5_readHouse_22 : decode cX5_readHouse 22 = .ok (.iconst 4, 1) := by decide +kernel
theorem dX5_readHouse_23 : decode cX5_readHouse 23 = .ok (.invokevirtual 97, 3) := by decide +kernel
theorem dX5_readHouse_26 : decode cX5_readHouse 26 = .ok (.return_, 1) := by decide +kernel
theorem dX5_readHouse_27 : decode cX5_readHouse 27 = .ok (.aload_n 0, 1) := by decide +kernel
theorem dX5_readHouse_28 : decode cX5_readHouse 28 = .ok (.getfield 25, 3) := by decide +kernel
theorem dX5_readHouse_31 : decode cX5_readHouse 31 = .ok (.invokevirtual 110, 3) := by decide +kernel
theorem dX5_readHouse_34 : decode cX5_readHouse 34 = .ok (.aload_n 0, 1) := by decide +kernel
theorem dX5_readHouse_35 : decode cX5_readHouse 35 = .ok (.getfield 12, 3) := by decide +kernel
theorem dX5_readHouse_38 : decode cX5_readHouse 38 = .ok (.getfield 138, 3) := by decide +kernel
theorem dX5_readHouse_41 : decode cX5_readHouse 41 = .ok (.iload_n 1, 1) := by decide +kernel
theorem dX5_readHouse_42 : decode cX5_readHouse 42 = .ok (.aload_n 0, 1) := by decide +kernel
theorem dX5_readHouse_43 : decode cX5_readHouse 43 = .ok (.iconst 1, 1) := by decide +kernel
theorem dX5_readHouse_44 : decode cX5_readHouse 44 = .ok (.aload_n 0, 1) := by decide +kernel
theorem dX5_readHouse_45 : decode cX5_readHouse 45 = .ok (.getfield 12, 3) := by decide +kernel
theorem dX5_readHouse_48 : decode cX5_readHouse 48 = .ok (.getfield 107, 3) := by decide +kernel
theorem dX5_readHouse_51 : decode cX5_readHouse 51 = .ok (.iconst 1, 1) := by decide +kernel
theorem dX5_readHouse_52 : decode cX5_readHouse 52 = .ok (.isub, 1) := by decide +kernel
theorem dX5_readHouse_53 : decode cX5_readHouse 53 = .ok (.invokevirtual 68, 3) := by decide +kernel
theorem dX5_readHouse_56 : decode cX5_readHouse 56 = .ok (.iastore, 1) := by decide +kernel
theorem dX5_readHouse_57 : decode cX5_readHouse 57 = .ok (.aload_n 0, 1) := by decide +kernel
theorem dX5_readHouse_58 : decode cX5_readHouse 58 = .ok (.getfield 12, 3) := by decide +kernel
theorem dX5_readHouse_61 : decode cX5_readHouse 61 = .ok (.getfield 141, 3) := by decide +kernel
theorem dX5_readHouse_64 : decode cX5_readHouse 64 = .ok (.iload_n 1, 1) := by decide +kernel
theorem dX5_readHouse_65 : decode cX5_readHouse 65 = .ok (.aload_n 0, 1) := by decide +kernel
theorem dX5_readHouse_66 : decode cX5_readHouse 66 = .ok (.iconst 0, 1) := by decide +kernel
theorem dX5_readHouse_67 : decode cX5_readHouse 67 = .ok (.bipush 50, 2) := by decide +kernel
theorem dX5_readHouse_69 : decode cX5_readHouse 69 = .ok (.invokevirtual 68, 3) := by decide +kernel
theorem dX5_readHouse_72 : decode cX5_readHouse 72 = .ok (.iastore, 1) := by decide +kernel
theorem dX5_readHouse_73 : decode cX5_readHouse 73 = .ok (.aload_n 0, 1) := by decide +kernel
theorem dX5_readHouse_74 : decode cX5_readHouse 74 = .ok (.getfield 21, 3) := by decide +kernel
theorem dX5_readHouse_77 : decode cX5_readHouse 77 = .ok (.getfield 144, 3) := by decide +kernel
theorem dX5_readHouse_80 : decode cX5_readHouse 80 = .ok (.iload_n 1, 1) := by decide +kernel
theorem dX5_readHouse_81 : decode cX5_readHouse 81 = .ok (.aload_n 0, 1) := by decide +kernel
theorem dX5_readHouse_82 : decode cX5_readHouse 82 = .ok (.iconst 0, 1) := by decide +kernel
theorem dX5_readHouse_83 : decode cX5_readHouse 83 = .ok (.bipush 9, 2) := by decide +kernel
theorem dX5_readHouse_85 : decode cX5_readHouse 85 = .ok (.invokevirtual 68, 3) := by decide +kernel
theorem dX5_readHouse_88 : decode cX5_readHouse 88 = .ok (.iastore, 1) := by decide +kernel
theorem dX5_readHouse_89 : decode cX5_readHouse 89 = .ok (.iconst 0, 1) := by decide +kernel
theorem dX5_readHouse_90 : decode cX5_readHouse 90 = .ok (.istore_n 2, 1) := by decide +kernel
theorem dX5_readHouse_91 : decode cX5_readHouse 91 = .ok (.iload_n 2, 1) := by decide +kernel
theorem dX5_readHouse_92 : decode cX5_readHouse 92 = .ok (.bipush 7, 2) := by decide +kernel
theorem dX5_readHouse_94 : decode cX5_readHouse 94 = .ok (.if_icmp .ge 30, 3) := by decide +kernel
theorem dX5_readHouse_97 : decode cX5_readHouse 97 = .ok (.aload_n 0, 1) := by decide +kernel
theorem dX5_readHouse_98 : decode cX5_readHouse 98 = .ok (.getfield 21, 3) := by decide +kernel
theorem dX5_readHouse_101 : decode cX5_readHouse 101 = .ok (.getfield 147, 3) := by decide +kernel
theorem dX5_readHouse_104 : decode cX5_readHouse 104 = .ok (.iload_n 1, 1) := by decide +kernel
theorem dX5_readHouse_105 : decode cX5_readHouse 105 = .ok (.bipush 7, 2) := by decide +kernel
theorem dX5_readHouse_107 : decode cX5_readHouse 107 = .ok (.imul, 1) := by decide +kernel
theorem dX5_readHouse_108 : decode cX5_readHouse 108 = .ok (.iload_n 2, 1) := by decide +kernel
theorem dX5_readHouse_109 : decode cX5_readHouse 109 = .ok (.iadd, 1) := by decide +kernel
theorem dX5_readHouse_110 : decode cX5_readHouse 110 = .ok (.aload_n 0, 1) := by decide +kernel
theorem dX5_readHouse_111 : decode cX5_readHouse 111 = .ok (.iconst 0, 1) := by decide +kernel
theorem dX5_readHouse_112 : decode cX5_readHouse 112 = .ok (.bipush 9, 2) := by decide +kernel
theorem dX5_readHouse_114 : decode cX5_readHouse 114 = .ok (.invokevirtual 68, 3) := by decide +kernel
theorem dX5_readHouse_117 : decode cX5_readHouse 117 = .ok (.iastore, 1) := by decide +kernel
theorem dX5_readHouse_118 : decode cX5_readHouse 118 = .ok (.iinc 2 1, 3) := by decide +kernel
theorem dX5_readHouse_121 : decode cX5_readHouse 121 = .ok (.goto (-30), 3) := by decide +kernel
theorem dX5_readHouse_124 : decode cX5_readHouse 124 = .ok (.aload_n 0, 1) := by decide +kernel
theorem dX5_readHouse_125 : decode cX5_readHouse 125 = .ok (.getfield 12, 3) := by decide +kernel
theorem dX5_readHouse_128 : decode cX5_readHouse 128 = .ok (.dup, 1) := by decide +kernel
theorem dX5_readHouse_129 : decode cX5_readHouse 129 = .ok (.getfield 104, 3) := by decide +kernel
theorem dX5_readHouse_132 : decode cX5_readHouse 132 = .ok (.iconst 1, 1) := by decide +kernel
theorem dX5_readHouse_133 : decode cX5_readHouse 133 = .ok (.iadd, 1) := by decide +kernel
theorem dX5_readHouse_134 : decode cX5_readHouse 134 = .ok (.putfield 104, 3) := by decide +kernel
theorem dX5_readHouse_137 : decode cX5_readHouse 137 = .ok (.return_, 1) := by decide +kernel
abbrev LX5_readHouse_91 (l1 l2 : Int32) (I : MI) (Q : MI → Prop) : Prop := WP mX5_readHouse 286 Rf0 91 [some (.ref 3), some (.int l1), some (.int l2)] [] I (qv Q)
set_option maxRecDepth 20000 in
theorem rX5_readHouse_91 {l1 l2 : Int32} {I : MI} {Q : MI → Prop} (H : ((7 ≤ l2 → (∀ I1 : MI, I1 = up2 I 4 2 ((I 4 2) + 1) → Q I1)) ∧ (¬ 7 ≤ l2 → (Wi mX5_readNumber [.ref 3, .int 0, .int 9] I (fun r2 I1 => (vp_in ((l1 * 7) + l2) 84 ∧ ∀ I3 : MI, I3 = up2 I1 11 ((l1 * 7) + l2).toNatClampNeg r2 → LX5_readHouse_91 l1 (l2 + 1) I3 Q)))))) : LX5_readHouse_91 l1 l2 I Q := by
  show WP mX5_readHouse 286 Rf0 91 [some (.ref 3), some (.int l1), some (.int l2)] [] I (qv Q)
  refine w_iload_n dX5_readHouse_91 rfl rfl ?_
  refine w_bipush (v := 7) dX5_readHouse_92 (by decide) ?_
  refine w_icmp_ge (t := 124) dX5_readHouse_94 (by decide) (fun h => ?_) (fun h => ?_)
  · replace H := H.1 h
    refine w_aload_n dX5_readHouse_124 rfl rfl ?_
    refine w_getR dX5_readHouse_125 fl_5_12 okC5 kd_3 (by decide) (by decide) rfl rf_3_1 ?_
    refine w_dup dX5_readHouse_128 rfl ?_
    refine w_getI dX5_readHouse_129 fl_5_104 okC6 kd_4 (by decide) (by decide) rfl ?_
    refine w_iconst (v := 1) dX5_readHouse_132 (by decide) ?_
    refine w_iadd dX5_readHouse_133 ?_
    refine w_putI dX5_readHouse_134 fl_5_104 okC6 kd_4 (by decide) (by decide) rfl rfl rfl (w_up fun I1 hI => ?_)
    replace H := H I1 hI
    exact w_vret dX5_readHouse_137 rfl ⟨rfl, H⟩
  · replace H := H.2 h
    refine w_aload_n dX5_readHouse_97 rfl rfl ?_
    refine w_getR dX5_readHouse_98 fl_5_21 okC5 kd_3 (by decide) (by decide) rfl rf_3_2 ?_
    refine w_getR dX5_readHouse_101 fl_5_147 okC8 kd_10 (by decide) (by decide) rfl rf_10_2 ?_
    refine w_iload_n dX5_readHouse_104 rfl rfl ?_
    refine w_bipush (v := 7) dX5_readHouse_105 (by decide) ?_
    refine w_imul dX5_readHouse_107 ?_
    refine w_iload_n dX5_readHouse_108 rfl rfl ?_
    refine w_iadd dX5_readHouse_109 ?_
    refine w_aload_n dX5_readHouse_110 rfl rfl ?_
    refine w_iconst (v := 0) dX5_readHouse_111 (by decide) ?_
    refine w_bipush (v := 9) dX5_readHouse_112 (by decide) ?_
    refine w_callV (st := [.int ((l1 * 7) + l2), .ref 11]) (As := [.int 0, .int 9]) dX5_readHouse_114 ml_5_68 okX5_readNumber kd_3 (by decide) rfl rfl rfl (Nat.le_of_ble_eq_true rfl) (by decide) (Nat.le_of_ble_eq_true rfl) (wc_i H (fun r2 I1 H => ?_))
    refine w_iast dX5_readHouse_117 kd_11 (by decide) H.1 (w_up fun I3 hI => ?_)
    replace H := H.2 I3 hI
    refine w_iinc (v := l2 + 1) (ls' := [some (.ref 3), some (.int l1), some (.int (l2 + 1))]) dX5_readHouse_118 rfl rfl (by decide) rfl rfl ?_
    refine w_goto (t := 91) dX5_readHouse_121 (by decide) ?_
    skip
    exact H
set_option maxRecDepth 20000 in
theorem rX5_readHouse {I : MI} {Q : MI → Prop} (H : (((I 4 2) < 12 → (Wv mX9_advance [.ref 1] I (fun I1 => (Wi mX5_readNumber [.ref 3, .int 1, .int ((I1 4 0) - 1)] I1 (fun r3 I2 => (vp_in (I 4 2) 12 ∧ ∀ I4 : MI, I4 = up2 I2 8 (I 4 2).toNatClampNeg r3 → Wi mX5_readNumber [.ref 3, .int 0, .int 50] I4 (fun r6 I5 => (vp_in (I 4 2) 12 ∧ ∀ I7 : MI, I7 = up2 I5 9 (I 4 2).toNatClampNeg r6 → Wi mX5_readNumber [.ref 3, .int 0, .int 9] I7 (fun r9 I8 => (vp_in (I 4 2) 12 ∧ ∀ I10 : MI, I10 = up2 I8 12 (I 4 2).toNatClampNeg r9 → LX5_readHouse_91 (I 4 2) 0 I10 Q)))))))))) ∧ (¬ (I 4 2) < 12 → (Wv mX5_fail [.ref 3, .int (I 1 3), .int 4] I (fun I1 => (Q I1)))))) : Wv mX5_readHouse [.ref 3] I Q := by
  show WP mX5_readHouse 286 Rf0 0 [some (.ref 3), none, none] [] I (qv Q)
  refine w_aload_n dX5_readHouse_0 rfl rfl ?_
  refine w_getR dX5_readHouse_1 fl_5_12 okC5 kd_3 (by decide) (by decide) rfl rf_3_1 ?_
  refine w_getI dX5_readHouse_4 fl_5_104 okC6 kd_4 (by decide) (by decide) rfl ?_
  refine w_istore_n (ls' := [some (.ref 3), some (.int (I 4 2)), none]) dX5_readHouse_7 rfl (by decide) rfl rfl ?_
  refine w_iload_n dX5_readHouse_8 rfl rfl ?_
  refine w_bipush (v := 12) dX5_readHouse_9 (by decide) ?_
  refine w_icmp_lt (t := 27) dX5_readHouse_11 (by decide) (fun h => ?_) (fun h => ?_)
  · replace H := H.1 h
    refine w_aload_n dX5_readHouse_27 rfl rfl ?_
    refine w_getR dX5_readHouse_28 fl_5_25 okC5 kd_3 (by decide) (by decide) rfl rf_3_0 ?_
    refine w_callV (st := []) (As := []) dX5_readHouse_31 ml_5_110 okX9_advance kd_1 (by decide) rfl rfl rfl (Nat.le_of_ble_eq_true rfl) (by decide) (Nat.le_of_ble_eq_true rfl) (wc_v H (fun I1 H => ?_))
    refine w_aload_n dX5_readHouse_34 rfl rfl ?_
    refine w_getR dX5_readHouse_35 fl_5_12 okC5 kd_3 (by decide) (by decide) rfl rf_3_1 ?_
    refine w_getR dX5_readHouse_38 fl_5_138 okC6 kd_4 (by decide) (by decide) rfl rf_4_10 ?_
    refine w_iload_n dX5_readHouse_41 rfl rfl ?_
    refine w_aload_n dX5_readHouse_42 rfl rfl ?_
    refine w_iconst (v := 1) dX5_readHouse_43 (by decide) ?_
    refine w_aload_n dX5_readHouse_44 rfl rfl ?_
    refine w_getR dX5_readHouse_45 fl_5_12 okC5 kd_3 (by decide) (by decide) rfl rf_3_1 ?_
    refine w_getI dX5_readHouse_48 fl_5_107 okC6 kd_4 (by decide) (by decide) rfl ?_
    refine w_iconst (v := 1) dX5_readHouse_51 (by decide) ?_
    refine w_isub dX5_readHouse_52 ?_
    refine w_callV (st := [.int (I 4 2), .ref 8]) (As := [.int 1, .int ((I1 4 0) - 1)]) dX5_readHouse_53 ml_5_68 okX5_readNumber kd_3 (by decide) rfl rfl rfl (Nat.le_of_ble_eq_true rfl) (by decide) (Nat.le_of_ble_eq_true rfl) (wc_i H (fun r3 I2 H => ?_))
    refine w_iast dX5_readHouse_56 kd_8 (by decide) H.1 (w_up fun I4 hI => ?_)
    replace H := H.2 I4 hI
    refine w_aload_n dX5_readHouse_57 rfl rfl ?_
    refine w_getR dX5_readHouse_58 fl_5_12 okC5 kd_3 (by decide) (by decide) rfl rf_3_1 ?_
    refine w_getR dX5_readHouse_61 fl_5_141 okC6 kd_4 (by decide) (by decide) rfl rf_4_11 ?_
    refine w_iload_n dX5_readHouse_64 rfl rfl ?_
    refine w_aload_n dX5_readHouse_65 rfl rfl ?_
    refine w_iconst (v := 0) dX5_readHouse_66 (by decide) ?_
    refine w_bipush (v := 50) dX5_readHouse_67 (by decide) ?_
    refine w_callV (st := [.int (I 4 2), .ref 9]) (As := [.int 0, .int 50]) dX5_readHouse_69 ml_5_68 okX5_readNumber kd_3 (by decide) rfl rfl rfl (Nat.le_of_ble_eq_true rfl) (by decide) (Nat.le_of_ble_eq_true rfl) (wc_i H (fun r6 I5 H => ?_))
    refine w_iast dX5_readHouse_72 kd_9 (by decide) H.1 (w_up fun I7 hI => ?_)
    replace H := H.2 I7 hI
    refine w_aload_n dX5_readHouse_73 rfl rfl ?_
    refine w_getR dX5_readHouse_74 fl_5_21 okC5 kd_3 (by decide) (by decide) rfl rf_3_2 ?_
    refine w_getR dX5_readHouse_77 fl_5_144 okC8 kd_10 (by decide) (by decide) rfl rf_10_3 ?_
    refine w_iload_n dX5_readHouse_80 rfl rfl ?_
    refine w_aload_n dX5_readHouse_81 rfl rfl ?_
    refine w_iconst (v := 0) dX5_readHouse_82 (by decide) ?_
    refine w_bipush (v := 9) dX5_readHouse_83 (by decide) ?_
    refine w_callV (st := [.int (I 4 2), .ref 12]) (As := [.int 0, .int 9]) dX5_readHouse_85 ml_5_68 okX5_readNumber kd_3 (by decide) rfl rfl rfl (Nat.le_of_ble_eq_true rfl) (by decide) (Nat.le_of_ble_eq_true rfl) (wc_i H (fun r9 I8 H => ?_))
    refine w_iast dX5_readHouse_88 kd_12 (by decide) H.1 (w_up fun I10 hI => ?_)
    replace H := H.2 I10 hI
    refine w_iconst (v := 0) dX5_readHouse_89 (by decide) ?_
    refine w_istore_n (ls' := [some (.ref 3), some (.int (I 4 2)), some (.int 0)]) dX5_readHouse_90 rfl (by decide) rfl rfl ?_
    skip
    exact H
  · replace H := H.2 h
    refine w_aload_n dX5_readHouse_14 rfl rfl ?_
    refine w_aload_n dX5_readHouse_15 rfl rfl ?_
    refine w_getR dX5_readHouse_16 fl_5_25 okC5 kd_3 (by decide) (by decide) rfl rf_3_0 ?_
    refine w_getI dX5_readHouse_19 fl_5_96 okC9 kd_1 (by decide) (by decide) rfl ?_
    refine w_iconst (v := 4) dX5_readHouse_22 (by decide) ?_
    refine w_callV (st := []) (As := [.int (I 1 3), .int 4]) dX5_readHouse_23 ml_5_97 okX5_fail kd_3 (by decide) rfl rfl rfl (Nat.le_of_ble_eq_true rfl) (by decide) (Nat.le_of_ble_eq_true rfl) (wc_v H (fun I1 H => ?_))
    exact w_vret dX5_readHouse_26 rfl ⟨rfl, H⟩
theorem dX5_takeOnce_0 : decode cX5_takeOnce 0 = .ok (.aload_n 0, 1) := by decide +kernel
theorem dX5_takeOnce_1 : decode cX5_takeOnce 1 = .ok (.getfield 32, 3) := by decide +kernel
theorem dX5_takeOnce_4 : decode cX5_takeOnce 4 = .ok (.iload_n 1, 1) := by decide +kernel
theorem dX5_takeOnce_5 : decode cX5_takeOnce 5 = .ok (.iand, 1) := by decide +kernel
theorem dX5_takeOnce_6 : decode cX5_takeOnce 6 = .ok (.ifCond .eq 15, 3) := by decide +kernel
theorem dX5_takeOnce_9 : decode cX5_takeOnce 9 = .ok (.aload_n 0, 1) := by decide +kernel
theorem dX5_takeOnce_10 : decode cX5_takeOnce 10 = .ok (.aload_n 0, 1) := by decide +kernel
theorem dX5_takeOnce_11 : decode cX5_takeOnce 11 = .ok (.getfield 25, 3) := by decide +kernel
theorem dX5_takeOnce_14 : decode cX5_takeOnce 14 = .ok (.getfield 96, 3) := by decide +kernel
theorem dX5_takeOnce_17 : decode cX5_takeOnce 17 = .ok (.iconst 3, 1) := by decide +kernel
theorem dX5_takeOnce_18 : decode cX5_takeOnce 18 = .ok (.invokevirtual 97, 3) := by decide +kernel
theorem dX5_takeOnce_21 : decode cX5_takeOnce 21 = .ok (.aload_n 0, 1) := by decide +kernel
theorem dX5_takeOnce_22 : decode cX5_takeOnce 22 = .ok (.dup, 1) := by decide +kernel
theorem dX5_takeOnce_23 : decode cX5_takeOnce 23 = .ok (.getfield 32, 3) := by decide +kernel
theorem dX5_takeOnce_26 : decode cX5_takeOnce 26 = .ok (.iload_n 1, 1) := by decide +kernel
theorem dX5_takeOnce_27 : decode cX5_takeOnce 27 = .ok (.ior, 1) := by decide +kernel
theorem dX5_takeOnce_28 : decode cX5_takeOnce 28 = .ok (.putfield 32, 3) := by decide +kernel
theorem dX5_takeOnce_31 : decode cX5_takeOnce 31 = .ok (.aload_n 0, 1) := by decide +kernel
theorem dX5_takeOnce_32 : decode cX5_takeOnce 32 = .ok (.getfield 25, 3) := by decide +kernel
theorem dX5_takeOnce_35 : decode cX5_takeOnce 35 = .ok (.invokevirtual 110, 3) := by decide +kernel
theorem dX5_takeOnce_38 : decode cX5_takeOnce 38 = .ok (.return_, 1) := by decide +kernel
abbrev LX5_takeOnce_21 (l1 : Int32) (I : MI) (Q : MI → Prop) : Prop := WP mX5_takeOnce 286 Rf0 21 [some (.ref 3), some (.int l1)] [] I (qv Q)
set_option maxRecDepth 20000 in
theorem rX5_takeOnce_21 {l1 : Int32} {I : MI} {Q : MI → Prop} (H : (∀ I1 : MI, I1 = up2 I 3 3 ((I 3 3) ||| l1) → Wv mX9_advance [.ref 1] I1 (fun I2 => (Q I2)))) : LX5_takeOnce_21 l1 I Q := by
  show WP mX5_takeOnce 286 Rf0 21 [some (.ref 3), some (.int l1)] [] I (qv Q)
  refine w_aload_n dX5_takeOnce_21 rfl rfl ?_
  refine w_dup dX5_takeOnce_22 rfl ?_
  refine w_getI dX5_takeOnce_23 fl_5_32 okC5 kd_3 (by decide) (by decide) rfl ?_
  refine w_iload_n dX5_takeOnce_26 rfl rfl ?_
  refine w_ior dX5_takeOnce_27 ?_
  refine w_putI dX5_takeOnce_28 fl_5_32 okC5 kd_3 (by decide) (by decide) rfl rfl rfl (w_up fun I1 hI => ?_)
  replace H := H I1 hI
  refine w_aload_n dX5_takeOnce_31 rfl rfl ?_
  refine w_getR dX5_takeOnce_32 fl_5_25 okC5 kd_3 (by decide) (by decide) rfl rf_3_0 ?_
  refine w_callV (st := []) (As := []) dX5_takeOnce_35 ml_5_110 okX9_advance kd_1 (by decide) rfl rfl rfl (Nat.le_of_ble_eq_true rfl) (by decide) (Nat.le_of_ble_eq_true rfl) (wc_v H (fun I2 H => ?_))
  exact w_vret dX5_takeOnce_38 rfl ⟨rfl, H⟩
set_option maxRecDepth 20000 in
theorem rX5_takeOnce {a1 : Int32} {I : MI} {Q : MI → Prop} (H : ((((I 3 3) &&& a1) = 0 → (LX5_takeOnce_21 a1 I Q)) ∧ (¬ ((I 3 3) &&& a1) = 0 → (Wv mX5_fail [.ref 3, .int (I 1 3), .int 3] I (fun I1 => (LX5_takeOnce_21 a1 I1 Q)))))) : Wv mX5_takeOnce [.ref 3, .int a1] I Q := by
  show WP mX5_takeOnce 286 Rf0 0 [some (.ref 3), some (.int a1)] [] I (qv Q)
  refine w_aload_n dX5_takeOnce_0 rfl rfl ?_
  refine w_getI dX5_takeOnce_1 fl_5_32 okC5 kd_3 (by decide) (by decide) rfl ?_
  refine w_iload_n dX5_takeOnce_4 rfl rfl ?_
  refine w_iand dX5_takeOnce_5 ?_
  refine w_if_eq (t := 21) dX5_takeOnce_6 (by decide) (fun h => ?_) (fun h => ?_)
  · replace H := H.1 h
    skip
    exact H
  · replace H := H.2 h
    refine w_aload_n dX5_takeOnce_9 rfl rfl ?_
    refine w_aload_n dX5_takeOnce_10 rfl rfl ?_
    refine w_getR dX5_takeOnce_11 fl_5_25 okC5 kd_3 (by decide) (by decide) rfl rf_3_0 ?_
    refine w_getI dX5_takeOnce_14 fl_5_96 okC9 kd_1 (by decide) (by decide) rfl ?_
    refine w_iconst (v := 3) dX5_takeOnce_17 (by decide) ?_
    refine w_callV (st := []) (As := [.int (I 1 3), .int 3]) dX5_takeOnce_18 ml_5_97 okX5_fail kd_3 (by decide) rfl rfl rfl (Nat.le_of_ble_eq_true rfl) (by decide) (Nat.le_of_ble_eq_true rfl) (wc_v H (fun I1 H => ?_))
    skip
    exact H
theorem dX5_readNumber_0 : decode cX5_readNumber 0 = .ok (.aload_n 0, 1) := by decide +kernel
theorem dX5_readNumber_1 : decode cX5_readNumber 1 = .ok (.getfield 25, 3) := by decide +kernel
theorem dX5_readNumber_4 : decode cX5_readNumber 4 = .ok (.getfield 45, 3) := by decide +kernel
theorem dX5_readNumber_7 : decode cX5_readNumber 7 = .ok (.iconst 2, 1) := by decide +kernel
theorem dX5_readNumber_8 : decode cX5_readNumber 8 = .ok (.if_icmp .eq 17, 3) := by decide +kernel
theorem dX5_readNumber_11 : decode cX5_readNumber 11 = .ok (.aload_n 0, 1) := by decide +kernel
theorem dX5_readNumber_12 : decode cX5_readNumber 12 = .ok (.aload_n 0, 1) := by decide +kernel
theorem dX5_readNumber_13 : decode cX5_readNumber 13 = .ok (.getfield 25, 3) := by decide +kernel
theorem dX5_readNumber_16 : decode cX5_readNumber 16 = .ok (.getfield 96, 3) := by decide +kernel
theorem dX5_readNumber_19 : decode cX5_readNumber 19 = .ok (.iconst 1, 1) := by decide +kernel
theorem dX5_readNumber_20 : decode cX5_readNumber 20 = .ok (.invokevirtual 97, 3) := by decide +kernel
theorem dX5_readNumber_23 : decode cX5_readNumber 23 = .ok (.iload_n 1, 1) := by decide +kernel
theorem dX5_readNumber_24 : decode cX5_readNumber 24 = .ok (.ireturn, 1) := by decide +kernel
theorem dX5_readNumber_25 : decode cX5_readNumber 25 = .ok (.aload_n 0, 1) := by decide +kernel
theorem dX5_readNumber_26 : decode cX5_readNumber 26 = .ok (.getfield 25, 3) := by decide +kernel
theorem dX5_readNumber_29 : decode cX5_readNumber 29 = .ok (.invokevirtual 150, 3) := by decide +kernel
theorem dX5_readNumber_32 : decode cX5_readNumber 32 = .ok (.istore_n 3, 1) := by decide +kernel
theorem dX5_readNumber_33 : decode cX5_readNumber 33 = .ok (.iload_n 3, 1) := by decide +kernel
theorem dX5_readNumber_34 : decode cX5_readNumber 34 = .ok (.iload_n 1, 1) := by decide +kernel
theorem dX5_readNumber_35 : decode cX5_readNumber 35 = .ok (.if_icmp .lt 8, 3) := by decide +kernel
theorem dX5_readNumber_38 : decode cX5_readNumber 38 = .ok (.iload_n 3, 1) := by decide +kernel
theorem dX5_readNumber_39 : decode cX5_readNumber 39 = .ok (.iload_n 2, 1) := by decide +kernel
theorem dX5_readNumber_40 : decode cX5_readNumber 40 = .ok (.if_icmp .le 17, 3) := by decide +kernel
theorem dX5_readNumber_43 : decode cX5_readNumber 43 = .ok (.aload_n 0, 1) := by decide +kernel
theorem dX5_readNumber_44 : decode cX5_readNumber 44 = .ok (.aload_n 0, 1) := by decide +kernel
theorem dX5_readNumber_45 : decode cX5_readNumber 45 = .ok (.getfield 25, 3) := by decide +kernel
theorem dX5_readNumber_48 : decode cX5_readNumber 48 = .ok (.getfield 96, 3) := by decide +kernel
theorem dX5_readNumber_51 : decode cX5_readNumber 51 = .ok (.iconst 2, 1) := by decide +kernel
theorem dX5_readNumber_52 : decode cX5_readNumber 52 = .ok (.invokevirtual 97, 3) := by decide +kernel
theorem dX5_readNumber_55 : decode cX5_readNumber 55 = .ok (.iload_n 1, 1) := by decide +kernel
theorem dX5_readNumber_56 : decode cX5_readNumber 56 = .ok (.ireturn, 1) := by decide +kernel
theorem dX5_readNumber_57 : decode cX5_readNumber 57 = .ok (.aload_n 0, 1) := by decide +kernel
theorem dX5_readNumber_58 : decode cX5_readNumber 58 = .ok (.getfield 25, 3) := by decide +kernel
theorem dX5_readNumber_61 : decode cX5_readNumber 61 = .ok (.invokevirtual 110, 3) := by decide +kernel
theorem dX5_readNumber_64 : decode cX5_readNumber 64 = .ok (.iload_n 3, 1) := by decide +kernel
theorem dX5_readNumber_65 : decode cX5_readNumber 65 = .ok (.ireturn, 1) := by decide +kernel
abbrev LX5_readNumber_43 (l1 l2 l3 : Int32) (I : MI) (Q : Int32 → MI → Prop) : Prop := WP mX5_readNumber 286 Rf0 43 [some (.ref 3), some (.int l1), some (.int l2), some (.int l3)] [] I (qi Q)
set_option maxRecDepth 20000 in
theorem rX5_readNumber_43 {l1 l2 l3 : Int32} {I : MI} {Q : Int32 → MI → Prop} (H : (Wv mX5_fail [.ref 3, .int (I 1 3), .int 2] I (fun I1 => (Q l1 I1)))) : LX5_readNumber_43 l1 l2 l3 I Q := by
  show WP mX5_readNumber 286 Rf0 43 [some (.ref 3), some (.int l1), some (.int l2), some (.int l3)] [] I (qi Q)
  refine w_aload_n dX5_readNumber_43 rfl rfl ?_
  refine w_aload_n dX5_readNumber_44 rfl rfl ?_
  refine w_getR dX5_readNumber_45 fl_5_25 okC5 kd_3 (by decide) (by decide) rfl rf_3_0 ?_
  refine w_getI dX5_readNumber_48 fl_5_96 okC9 kd_1 (by decide) (by decide) rfl ?_
  refine w_iconst (v := 2) dX5_readNumber_51 (by decide) ?_
  refine w_callV (st := []) (As := [.int (I 1 3), .int 2]) dX5_readNumber_52 ml_5_97 okX5_fail kd_3 (by decide) rfl rfl rfl (Nat.le_of_ble_eq_true rfl) (by decide) (Nat.le_of_ble_eq_true rfl) (wc_v H (fun I1 H => ?_))
  refine w_iload_n dX5_readNumber_55 rfl rfl ?_
  exact w_iret dX5_readNumber_56 rfl ⟨_, rfl, H⟩
set_option maxRecDepth 20000 in
theorem rX5_readNumber {a1 a2 : Int32} {I : MI} {Q : Int32 → MI → Prop} (H : (((I 1 5) = 2 → (Wi mX9_value [.ref 1] I (fun r2 I1 => ((r2 < a1 → (LX5_readNumber_43 a1 a2 r2 I1 Q)) ∧ (¬ r2 < a1 → ((r2 ≤ a2 → (Wv mX9_advance [.ref 1] I1 (fun I3 => (Q r2 I3)))) ∧ (¬ r2 ≤ a2 → (LX5_readNumber_43 a1 a2 r2 I1 Q)))))))) ∧ (¬ (I 1 5) = 2 → (Wv mX5_fail [.ref 3, .int (I 1 3), .int 1] I (fun I1 => (Q a1 I1)))))) : Wi mX5_readNumber [.ref 3, .int a1, .int a2] I Q := by
  show WP mX5_readNumber 286 Rf0 0 [some (.ref 3), some (.int a1), some (.int a2), none] [] I (qi Q)
  refine w_aload_n dX5_readNumber_0 rfl rfl ?_
  refine w_getR dX5_readNumber_1 fl_5_25 okC5 kd_3 (by decide) (by decide) rfl rf_3_0 ?_
  refine w_getI dX5_readNumber_4 fl_5_45 okC9 kd_1 (by decide) (by decide) rfl ?_
  refine w_iconst (v := 2) dX5_readNumber_7 (by decide) ?_
  refine w_icmp_eq (t := 25) dX5_readNumber_8 (by decide) (fun h => ?_) (fun h => ?_)
  · replace H := H.1 h
    refine w_aload_n dX5_readNumber_25 rfl rfl ?_
    refine w_getR dX5_readNumber_26 fl_5_25 okC5 kd_3 (by decide) (by decide) rfl rf_3_0 ?_
    refine w_callV (st := []) (As := []) dX5_readNumber_29 ml_5_150 okX9_value kd_1 (by decide) rfl rfl rfl (Nat.le_of_ble_eq_true rfl) (by decide) (Nat.le_of_ble_eq_true rfl) (wc_i H (fun r2 I1 H => ?_))
    refine w_istore_n (ls' := [some (.ref 3), some (.int a1), some (.int a2), some (.int r2)]) dX5_readNumber_32 rfl (by decide) rfl rfl ?_
    refine w_iload_n dX5_readNumber_33 rfl rfl ?_
    refine w_iload_n dX5_readNumber_34 rfl rfl ?_
    refine w_icmp_lt (t := 43) dX5_readNumber_35 (by decide) (fun h => ?_) (fun h => ?_)
    · replace H := H.1 h
      skip
      exact H
    · replace H := H.2 h
      refine w_iload_n dX5_readNumber_38 rfl rfl ?_
      refine w_iload_n dX5_readNumber_39 rfl rfl ?_
      refine w_icmp_le (t := 57) dX5_readNumber_40 (by decide) (fun h => ?_) (fun h => ?_)
      · replace H := H.1 h
        refine w_aload_n dX5_readNumber_57 rfl rfl ?_
        refine w_getR dX5_readNumber_58 fl_5_25 okC5 kd_3 (by decide) (by decide) rfl rf_3_0 ?_
        refine w_callV (st := []) (As := []) dX5_readNumber_61 ml_5_110 okX9_advance kd_1 (by decide) rfl rfl rfl (Nat.le_of_ble_eq_true rfl) (by decide) (Nat.le_of_ble_eq_true rfl) (wc_v H (fun I3 H => ?_))
        refine w_iload_n dX5_readNumber_64 rfl rfl ?_
        exact w_iret dX5_readNumber_65 rfl ⟨_, rfl, H⟩
      · replace H := H.2 h
        skip
        exact H
  · replace H := H.2 h
    refine w_aload_n dX5_readNumber_11 rfl rfl ?_
    refine w_aload_n dX5_readNumber_12 rfl rfl ?_
    refine w_getR dX5_readNumber_13 fl_5_25 okC5 kd_3 (by decide) (by decide) rfl rf_3_0 ?_
    refine w_getI dX5_readNumber_16 fl_5_96 okC9 kd_1 (by decide) (by decide) rfl ?_
    refine w_iconst (v := 1) dX5_readNumber_19 (by decide) ?_
    refine w_callV (st := []) (As := [.int (I 1 3), .int 1]) dX5_readNumber_20 ml_5_97 okX5_fail kd_3 (by decide) rfl rfl rfl (Nat.le_of_ble_eq_true rfl) (by decide) (Nat.le_of_ble_eq_true rfl) (wc_v H (fun I1 H => ?_))
    refine w_iload_n dX5_readNumber_23 rfl rfl ?_
    exact w_iret dX5_readNumber_24 rfl ⟨_, rfl, H⟩
theorem dX5_readSemicolon_0 : decode cX5_readSemicolon 0 = .ok (.aload_n 0, 1) := by decide +kernel
theorem dX5_readSemicolon_1 : decode cX5_readSemicolon 1 = .ok (.getfield 25, 3) := by decide +kernel
theorem dX5_readSemicolon_4 : decode cX5_readSemicolon 4 = .ok (.getfield 45, 3) := by decide +kernel
theorem dX5_readSemicolon_7 : decode cX5_readSemicolon 7 = .ok (.iconst 3, 1) := by decide +kernel
theorem dX5_readSemicolon_8 : decode cX5_readSemicolon 8 = .ok (.if_icmp .eq 15, 3) := by decide +kernel
theorem dX5_readSemicolon_11 : decode cX5_readSemicolon 11 = .ok (.aload_n 0, 1) := by decide +kernel
theorem dX5_readSemicolon_12 : decode cX5_readSemicolon 12 = .ok (.aload_n 0, 1) := by decide +kernel
theorem dX5_readSemicolon_13 : decode cX5_readSemicolon 13 = .ok (.getfield 25, 3) := by decide +kernel
theorem dX5_readSemicolon_16 : decode cX5_readSemicolon 16 = .ok (.getfield 96, 3) := by decide +kernel
theorem dX5_readSemicolon_19 : decode cX5_readSemicolon 19 = .ok (.iconst 1, 1) := by decide +kernel
theorem dX5_readSemicolon_20 : decode cX5_readSemicolon 20 = .ok (.invokevirtual 97, 3) := by decide +kernel
theorem dX5_readSemicolon_23 : decode cX5_readSemicolon 23 = .ok (.aload_n 0, 1) := by decide +kernel
theorem dX5_readSemicolon_24 : decode cX5_readSemicolon 24 = .ok (.getfield 25, 3) := by decide +kernel
theorem dX5_readSemicolon_27 : decode cX5_readSemicolon 27 = .ok (.invokevirtual 110, 3) := by decide +kernel
theorem dX5_readSemicolon_30 : decode cX5_readSemicolon 30 = .ok (.return_, 1) := by decide +kernel
abbrev LX5_readSemicolon_23 (I : MI) (Q : MI → Prop) : Prop := WP mX5_readSemicolon 286 Rf0 23 [some (.ref 3)] [] I (qv Q)
set_option maxRecDepth 20000 in
theorem rX5_readSemicolon_23 {I : MI} {Q : MI → Prop} (H : (Wv mX9_advance [.ref 1] I (fun I1 => (Q I1)))) : LX5_readSemicolon_23  I Q := by
  show WP mX5_readSemicolon 286 Rf0 23 [some (.ref 3)] [] I (qv Q)
  refine w_aload_n dX5_readSemicolon_23 rfl rfl ?_
  refine w_getR dX5_readSemicolon_24 fl_5_25 okC5 kd_3 (by decide) (by decide) rfl rf_3_0 ?_
  refine w_callV (st := []) (As := []) dX5_readSemicolon_27 ml_5_110 okX9_advance kd_1 (by decide) rfl rfl rfl (Nat.le_of_ble_eq_true rfl) (by decide) (Nat.le_of_ble_eq_true rfl) (wc_v H (fun I1 H => ?_))
  exact w_vret dX5_readSemicolon_30 rfl ⟨rfl, H⟩
set_option maxRecDepth 20000 in
theorem rX5_readSemicolon {I : MI} {Q : MI → Prop} (H : (((I 1 5) = 3 → (LX5_readSemicolon_23  I Q)) ∧ (¬ (I 1 5) = 3 → (Wv mX5_fail [.ref 3, .int (I 1 3), .int 1] I (fun I1 => (LX5_readSemicolon_23  I1 Q)))))) : Wv mX5_readSemicolon [.ref 3] I Q := by
  show WP mX5_readSemicolon 286 Rf0 0 [some (.ref 3)] [] I (qv Q)
  refine w_aload_n dX5_readSemicolon_0 rfl rfl ?_
  refine w_getR dX5_readSemicolon_1 fl_5_25 okC5 kd_3 (by decide) (by decide) rfl rf_3_0 ?_
  refine w_getI dX5_readSemicolon_4 fl_5_45 okC9 kd_1 (by decide) (by decide) rfl ?_
  refine w_iconst (v := 3) dX5_readSemicolon_7 (by decide) ?_
  refine w_icmp_eq (t := 23) dX5_readSemicolon_8 (by decide) (fun h => ?_) (fun h => ?_)
  · replace H := H.1 h
    skip
    exact H
  · replace H := H.2 h
    refine w_aload_n dX5_readSemicolon_11 rfl rfl ?_
    refine w_aload_n dX5_readSemicolon_12 rfl rfl ?_
    refine w_getR dX5_readSemicolon_13 fl_5_25 okC5 kd_3 (by decide) (by decide) rfl rf_3_0 ?_
    refine w_getI dX5_readSemicolon_16 fl_5_96 okC9 kd_1 (by decide) (by decide) rfl ?_
    refine w_iconst (v := 1) dX5_readSemicolon_19 (by decide) ?_
    refine w_callV (st := []) (As := [.int (I 1 3), .int 1]) dX5_readSemicolon_20 ml_5_97 okX5_fail kd_3 (by decide) rfl rfl rfl (Nat.le_of_ble_eq_true rfl) (by decide) (Nat.le_of_ble_eq_true rfl) (wc_v H (fun I1 H => ?_))
    skip
    exact H
theorem dX5_fail_0 : decode cX5_fail 0 = .ok (.aload_n 0, 1) := by decide +kernel
theorem dX5_fail_1 : decode cX5_fail 1 = .ok (.getfield 36, 3) := by decide +kernel
theorem dX5_fail_4 : decode cX5_fail 4 = .ok (.ifCond .ne 13, 3) := by decide +kernel
theorem dX5_fail_7 : decode cX5_fail 7 = .ok (.aload_n 0, 1) := by decide +kernel
theorem dX5_fail_8 : decode cX5_fail 8 = .ok (.bipush 8, 2) := by decide +kernel
theorem dX5_fail_10 : decode cX5_fail 10 = .ok (.iload_n 1, 1) := by decide +kernel
theorem dX5_fail_11 : decode cX5_fail 11 = .ok (.imul, 1) := by decide +kernel
theorem dX5_fail_12 : decode cX5_fail 12 = .ok (.iload_n 2, 1) := by decide +kernel
theorem dX5_fail_13 : decode cX5_fail 13 = .ok (.iadd, 1) := by decide +kernel
theorem dX5_fail_14 : decode cX5_fail 14 = .ok (.putfield 36, 3) := by decide +kernel
theorem dX5_fail_17 : decode cX5_fail 17 = .ok (.return_, 1) := by decide +kernel
set_option maxRecDepth 20000 in
theorem rX5_fail {a1 a2 : Int32} {I : MI} {Q : MI → Prop} (H : ((¬ (I 3 4) = 0 → (Q I)) ∧ ((I 3 4) = 0 → (∀ I1 : MI, I1 = up2 I 3 4 ((8 * a1) + a2) → Q I1)))) : Wv mX5_fail [.ref 3, .int a1, .int a2] I Q := by
  show WP mX5_fail 286 Rf0 0 [some (.ref 3), some (.int a1), some (.int a2)] [] I (qv Q)
  refine w_aload_n dX5_fail_0 rfl rfl ?_
  refine w_getI dX5_fail_1 fl_5_36 okC5 kd_3 (by decide) (by decide) rfl ?_
  refine w_if_ne (t := 17) dX5_fail_4 (by decide) (fun h => ?_) (fun h => ?_)
  · replace H := H.1 h
    exact w_vret dX5_fail_17 rfl ⟨rfl, H⟩
  · replace H := H.2 h
    refine w_aload_n dX5_fail_7 rfl rfl ?_
    refine w_bipush (v := 8) dX5_fail_8 (by decide) ?_
    refine w_iload_n dX5_fail_10 rfl rfl ?_
    refine w_imul dX5_fail_11 ?_
    refine w_iload_n dX5_fail_12 rfl rfl ?_
    refine w_iadd dX5_fail_13 ?_
    refine w_putI dX5_fail_14 fl_5_36 okC5 kd_3 (by decide) (by decide) rfl rfl rfl (w_up fun I1 hI => ?_)
    replace H := H I1 hI
    exact w_vret dX5_fail_17 rfl ⟨rfl, H⟩
theorem dX9_addFour_0 : decode cX9_addFour 0 = .ok (.bipush 24, 2) := by decide +kernel
theorem dX9_addFour_2 : decode cX9_addFour 2 = .ok (.istore_n 2, 1) := by decide +kernel
theorem dX9_addFour_3 : decode cX9_addFour 3 = .ok (.iload_n 2, 1) := by decide +kernel
theorem dX9_addFour_4 : decode cX9_addFour 4 = .ok (.ifCond .lt 42, 3) := by decide +kernel
theorem dX9_addFour_7 : decode cX9_addFour 7 = .ok (.aload_n 0, 1) := by decide +kernel
theorem dX9_addFour_8 : decode cX9_addFour 8 = .ok (.getfield 15, 3) := by decide +kernel
theorem dX9_addFour_11 : decode cX9_addFour 11 = .ok (.sipush 900, 3) := by decide +kernel
theorem dX9_addFour_14 : decode cX9_addFour 14 = .ok (.if_icmp .ge 32, 3) := by decide +kernel
theorem dX9_addFour_17 : decode cX9_addFour 17 = .ok (.aload_n 0, 1) := by decide +kernel
theorem dX9_addFour_18 : decode cX9_addFour 18 = .ok (.getfield 9, 3) := by decide +kernel
theorem dX9_addFour_21 : decode cX9_addFour 21 = .ok (.aload_n 0, 1) := by decide +kernel
theorem dX9_addFour_22 : decode cX9_addFour 22 = .ok (.getfield 15, 3) := by decide +kernel
theorem dX9_addFour_25 : decode cX9_addFour 25 = .ok (.iload_n 1, 1) := by decide +kernel
theorem dX9_addFour_26 : decode cX9_addFour 26 = .ok (.iload_n 2, 1) := by decide +kernel
theorem dX9_addFour_27 : decode cX9_addFour 27 = .ok (.ishr, 1) := by decide +kernel
theorem dX9_addFour_28 : decode cX9_addFour 28 = .ok (.i2b, 1) := by decide +kernel
theorem dX9_addFour_29 : decode cX9_addFour 29 = .ok (.bastore, 1) := by decide +kernel
theorem dX9_addFour_30 : decode cX9_addFour 30 = .ok (.aload_n 0, 1) := by decide +kernel
theorem dX9_addFour_31 : decode cX9_addFour 31 = .ok (.dup, 1) := by decide +kernel
theorem dX9_addFour_32 : decode cX9_addFour 32 = .ok (.getfield 15, 3) := by decide +kernel
theorem dX9_addFour_35 : decode cX9_addFour 35 = .ok (.iconst 1, 1) := by decide +kernel
theorem dX9_addFour_36 : decode cX9_addFour 36 = .ok (.iadd, 1) := by decide +kernel
theorem dX9_addFour_37 : decode cX9_addFour 37 = .ok (.putfield 15, 3) := by decide +kernel
theorem dX9_addFour_40 : decode cX9_addFour 40 = .ok (.iinc 2 (-8), 3) := by decide +kernel
theorem dX9_addFour_43 : decode cX9_addFour 43 = .ok (.goto (-40), 3) := by decide +kernel
theorem dX9_addFour_46 : decode cX9_addFour 46 = .ok (.return_, 1) := by decide +kernel
abbrev LX9_addFour_3 (l1 l2 : Int32) (I : MI) (Q : MI → Prop) : Prop := WP mX9_addFour 286 Rf0 3 [some (.ref 1), some (.int l1), some (.int l2)] [] I (qv Q)
set_option maxRecDepth 20000 in
theorem rX9_addFour_3 {l1 l2 : Int32} {I : MI} {Q : MI → Prop} (H : ((l2 < 0 → (Q I)) ∧ (¬ l2 < 0 → ((900 ≤ (I 1 1) → (Q I)) ∧ (¬ 900 ≤ (I 1 1) → (vp_in (I 1 1) 900 ∧ ∀ I1 : MI, I1 = up2 I 2 (I 1 1).toNatClampNeg (vp_nar .byte ((l1 >>> (l2 &&& 31)).toInt8.toInt32)) → ∀ I2 : MI, I2 = up2 I1 1 1 ((I1 1 1) + 1) → LX9_addFour_3 l1 (l2 + (-8)) I2 Q)))))) : LX9_addFour_3 l1 l2 I Q := by
  show WP mX9_addFour 286 Rf0 3 [some (.ref 1), some (.int l1), some (.int l2)] [] I (qv Q)
  refine w_iload_n dX9_addFour_3 rfl rfl ?_
  refine w_if_lt (t := 46) dX9_addFour_4 (by decide) (fun h => ?_) (fun h => ?_)
  · replace H := H.1 h
    exact w_vret dX9_addFour_46 rfl ⟨rfl, H⟩
  · replace H := H.2 h
    refine w_aload_n dX9_addFour_7 rfl rfl ?_
    refine w_getI dX9_addFour_8 fl_9_15 okC9 kd_1 (by decide) (by decide) rfl ?_
    refine w_sipush (v := 900) dX9_addFour_11 (by decide) ?_
    refine w_icmp_ge (t := 46) dX9_addFour_14 (by decide) (fun h => ?_) (fun h => ?_)
    · replace H := H.1 h
      exact w_vret dX9_addFour_46 rfl ⟨rfl, H⟩
    · replace H := H.2 h
      refine w_aload_n dX9_addFour_17 rfl rfl ?_
      refine w_getR dX9_addFour_18 fl_9_9 okC9 kd_1 (by decide) (by decide) rfl rf_1_0 ?_
      refine w_aload_n dX9_addFour_21 rfl rfl ?_
      refine w_getI dX9_addFour_22 fl_9_15 okC9 kd_1 (by decide) (by decide) rfl ?_
      refine w_iload_n dX9_addFour_25 rfl rfl ?_
      refine w_iload_n dX9_addFour_26 rfl rfl ?_
      refine w_ishr dX9_addFour_27 ?_
      refine w_i2b dX9_addFour_28 ?_
      refine w_bast dX9_addFour_29 kd_2 (by decide) H.1 (w_up fun I1 hI => ?_)
      replace H := H.2 I1 hI
      refine w_aload_n dX9_addFour_30 rfl rfl ?_
      refine w_dup dX9_addFour_31 rfl ?_
      refine w_getI dX9_addFour_32 fl_9_15 okC9 kd_1 (by decide) (by decide) rfl ?_
      refine w_iconst (v := 1) dX9_addFour_35 (by decide) ?_
      refine w_iadd dX9_addFour_36 ?_
      refine w_putI dX9_addFour_37 fl_9_15 okC9 kd_1 (by decide) (by decide) rfl rfl rfl (w_up fun I2 hI => ?_)
      replace H := H I2 hI
      refine w_iinc (v := l2 + (-8)) (ls' := [some (.ref 1), some (.int l1), some (.int (l2 + (-8)))]) dX9_addFour_40 rfl rfl (by decide) rfl rfl ?_
      refine w_goto (t := 3) dX9_addFour_43 (by decide) ?_
      skip
      exact H
set_option maxRecDepth 20000 in
theorem rX9_addFour {a1 : Int32} {I : MI} {Q : MI → Prop} (H : (LX9_addFour_3 a1 24 I Q)) : Wv mX9_addFour [.ref 1, .int a1] I Q := by
  show WP mX9_addFour 286 Rf0 0 [some (.ref 1), some (.int a1), none] [] I (qv Q)
  refine w_bipush (v := 24) dX9_addFour_0 (by decide) ?_
  refine w_istore_n (ls' := [some (.ref 1), some (.int a1), some (.int 24)]) dX9_addFour_2 rfl (by decide) rfl rfl ?_
  skip
  exact H
theorem dX9_begin_0 : decode cX9_begin 0 = .ok (.aload_n 0, 1) := by decide +kernel
theorem dX9_begin_1 : decode cX9_begin 1 = .ok (.iload_n 1, 1) := by decide +kernel
theorem dX9_begin_2 : decode cX9_begin 2 = .ok (.aload_n 0, 1) := by decide +kernel
theorem dX9_begin_3 : decode cX9_begin 3 = .ok (.getfield 15, 3) := by decide +kernel
theorem dX9_begin_6 : decode cX9_begin 6 = .ok (.invokestatic 19, 3) := by decide +kernel
theorem dX9_begin_9 : decode cX9_begin 9 = .ok (.putfield 25, 3) := by decide +kernel
theorem dX9_begin_12 : decode cX9_begin 12 = .ok (.aload_n 0, 1) := by decide +kernel
theorem dX9_begin_13 : decode cX9_begin 13 = .ok (.iconst 0, 1) := by decide +kernel
theorem dX9_begin_14 : decode cX9_begin 14 = .ok (.putfield 28, 3) := by decide +kernel
theorem dX9_begin_17 : decode cX9_begin 17 = .ok (.aload_n 0, 1) := by decide +kernel
theorem dX9_begin_18 : decode cX9_begin 18 = .ok (.invokevirtual 31, 3) := by decide +kernel
theorem dX9_begin_21 : decode cX9_begin 21 = .ok (.return_, 1) := by decide +kernel
set_option maxRecDepth 20000 in
theorem rX9_begin {a1 : Int32} {I : MI} {Q : MI → Prop} (H : (∀ x1 : Int32, x1 = (if (I 1 1) < a1 then (I 1 1) else a1) → ∀ I2 : MI, I2 = up2 I 1 2 x1 → ∀ I3 : MI, I3 = up2 I2 1 4 0 → Wv mX9_advance [.ref 1] I3 (fun I4 => (Q I4)))) : Wv mX9_begin [.ref 1, .int a1] I Q := by
  show WP mX9_begin 286 Rf0 0 [some (.ref 1), some (.int a1)] [] I (qv Q)
  refine w_aload_n dX9_begin_0 rfl rfl ?_
  refine w_iload_n dX9_begin_1 rfl rfl ?_
  refine w_aload_n dX9_begin_2 rfl rfl ?_
  refine w_getI dX9_begin_3 fl_9_15 okC9 kd_1 (by decide) (by decide) rfl ?_
  refine w_min dX9_begin_6 ml_9_19 minS maI minC (by decide) (Nat.le_of_ble_eq_true rfl) ?_
  refine w_top fun x1 hx => ?_
  replace H := H x1 hx
  refine w_putI dX9_begin_9 fl_9_25 okC9 kd_1 (by decide) (by decide) rfl rfl rfl (w_up fun I2 hI => ?_)
  replace H := H I2 hI
  refine w_aload_n dX9_begin_12 rfl rfl ?_
  refine w_iconst (v := 0) dX9_begin_13 (by decide) ?_
  refine w_putI dX9_begin_14 fl_9_28 okC9 kd_1 (by decide) (by decide) rfl rfl rfl (w_up fun I3 hI => ?_)
  replace H := H I3 hI
  refine w_aload_n dX9_begin_17 rfl rfl ?_
  refine w_callV (st := []) (As := []) dX9_begin_18 ml_9_31 okX9_advance kd_1 (by decide) rfl rfl rfl (Nat.le_of_ble_eq_true rfl) (by decide) (Nat.le_of_ble_eq_true rfl) (wc_v H (fun I4 H => ?_))
  exact w_vret dX9_begin_21 rfl ⟨rfl, H⟩
theorem dX9_advance_0 : decode cX9_advance 0 = .ok (.aload_n 0, 1) := by decide +kernel
theorem dX9_advance_1 : decode cX9_advance 1 = .ok (.aload_n 0, 1) := by decide +kernel
theorem dX9_advance_2 : decode cX9_advance 2 = .ok (.getfield 28, 3) := by decide +kernel
theorem dX9_advance_5 : decode cX9_advance 5 = .ok (.putfield 34, 3) := by decide +kernel
theorem dX9_advance_8 : decode cX9_advance 8 = .ok (.aload_n 0, 1) := by decide +kernel
theorem dX9_advance_9 : decode cX9_advance 9 = .ok (.getfield 34, 3) := by decide +kernel
theorem dX9_advance_12 : decode cX9_advance 12 = .ok (.aload_n 0, 1) := by decide +kernel
theorem dX9_advance_13 : decode cX9_advance 13 = .ok (.getfield 25, 3) := by decide +kernel
theorem dX9_advance_16 : decode cX9_advance 16 = .ok (.if_icmp .ge 32, 3) := by decide +kernel
theorem dX9_advance_19 : decode cX9_advance 19 = .ok (.aload_n 0, 1) := by decide +kernel
theorem dX9_advance_20 : decode cX9_advance 20 = .ok (.getfield 9, 3) := by decide +kernel
theorem dX9_advance_23 : decode cX9_advance 23 = .ok (.aload_n 0, 1) := by decide +kernel
theorem dX9_advance_24 : decode cX9_advance 24 = .ok (.getfield 34, 3) := by decide +kernel
theorem dX9_advance_27 : decode cX9_advance 27 = .ok (.baload, 1) := by decide +kernel
theorem dX9_advance_28 : decode cX9_advance 28 = .ok (.invokestatic 37, 3) := by decide +kernel
theorem dX9_advance_31 : decode cX9_advance 31 = .ok (.iconst 5, 1) := by decide +kernel
theorem dX9_advance_32 : decode cX9_advance 32 = .ok (.if_icmp .ne 16, 3) := by decide +kernel
theorem dX9_advance_35 : decode cX9_advance 35 = .ok (.aload_n 0, 1) := by decide +kernel
theorem dX9_advance_36 : decode cX9_advance 36 = .ok (.dup, 1) := by decide +kernel
theorem dX9_advance_37 : decode cX9_advance 37 = .ok (.getfield 34, 3) := by decide +kernel
theorem dX9_advance_40 : decode cX9_advance 40 = .ok (.iconst 1, 1) := by decide +kernel
theorem dX9_advance_41 : decode cX9_advance 41 = .ok (.iadd, 1) := by decide +kernel
theorem dX9_advance_42 : decode cX9_advance 42 = .ok (.putfield 34, 3) := by decide +kernel
theorem dX9_advance_45 : decode cX9_advance 45 = .ok (.goto (-37), 3) := by decide +kernel
theorem dX9_advance_48 : decode cX9_advance 48 = .ok (.aload_n 0, 1) := by decide +kernel
theorem dX9_advance_49 : decode cX9_advance 49 = .ok (.aload_n 0, 1) := by decide +kernel
theorem dX9_advance_50 : decode cX9_advance 50 = .ok (.getfield 34, 3) := by decide +kernel
theorem dX9_advance_53 : decode cX9_advance 53 = .ok (.putfield 28, 3) := by decide +kernel
theorem dX9_advance_56 : decode cX9_advance 56 = .ok (.aload_n 0, 1) := by decide +kernel
theorem dX9_advance_57 : decode cX9_advance 57 = .ok (.getfield 34, 3) := by decide +kernel
theorem dX9_advance_60 : decode cX9_advance 60 = .ok (.aload_n 0, 1) := by decide +kernel
theorem dX9_advance_61 : decode cX9_advance 61 = .ok (.getfield 25, 3) := by decide +kernel
theorem dX9_advance_64 : decode cX9_advance 64 = .ok (.if_icmp .lt 9, 3) := by decide +kernel
theorem dX9_advance_67 : decode cX9_advance 67 = .ok (.aload_n 0, 1) := by decide +kernel
theorem dX9_advance_68 : decode cX9_advance 68 = .ok (.iconst 0, 1) := by decide +kernel
theorem dX9_advance_69 : decode cX9_advance 69 = .ok (.putfield 41, 3) := by decide +kernel
theorem dX9_advance_72 : decode cX9_advance 72 = .ok (.return_, 1) := by decide +kernel
theorem dX9_advance_73 : decode cX9_advance 73 = .ok (.aload_n 0, 1) := by decide +kernel
theorem dX9_advance_74 : decode cX9_advance 74 = .ok (.aload_n 0, 1) := by decide +kernel
theorem dX9_advance_75 : decode cX9_advance 75 = .ok (.getfield 9, 3) := by decide +kernel
theorem dX9_advance_78 : decode cX9_advance 78 = .ok (.aload_n 0, 1) := by decide +kernel
theorem dX9_advance_79 : decode cX9_advance 79 = .ok (.getfield 34, 3) := by decide +kernel
theorem dX9_advance_82 : decode cX9_advance 82 = .ok (.baload, 1) := by decide +kernel
theorem dX9_advance_83 : decode cX9_advance 83 = .ok (.invokestatic 37, 3) := by decide +kernel
theorem dX9_advance_86 : decode cX9_advance 86 = .ok (.putfield 41, 3) := by decide +kernel
theorem dX9_advance_89 : decode cX9_advance 89 = .ok (.aload_n 0, 1) := by decide +kernel
theorem dX9_advance_90 : decode cX9_advance 90 = .ok (.getfield 41, 3) := by decide +kernel
theorem dX9_advance_93 : decode cX9_advance 93 = .ok (.iconst 1, 1) := by decide +kernel
theorem dX9_advance_94 : decode cX9_advance 94 = .ok (.if_icmp .ne 8, 3) := by decide +kernel
theorem dX9_advance_97 : decode cX9_advance 97 = .ok (.bipush 6, 2) := by decide +kernel
theorem dX9_advance_99 : decode cX9_advance 99 = .ok (.goto 16, 3) := by decide +kernel
theorem dX9_advance_102 : decode cX9_advance 102 = .ok (.aload_n 0, 1) := by decide +kernel
theorem dX9_advance_103 : decode cX9_advance 103 = .ok (.getfield 41, 3) := by decide +kernel
theorem dX9_advance_106 : decode cX9_advance 106 = .ok (.iconst 2, 1) := by decide +kernel
theorem dX9_advance_107 : decode cX9_advance 107 = .ok (.if_icmp .ne 7, 3) := by decide +kernel
theorem dX9_advance_110 : decode cX9_advance 110 = .ok (.iconst 4, 1) := by decide +kernel
theorem dX9_advance_111 : decode cX9_advance 111 = .ok (.goto 4, 3) := by decide +kernel
theorem dX9_advance_114 : decode cX9_advance 114 = .ok (.iconst 1, 1) := by decide +kernel
theorem dX9_advance_115 : decode cX9_advance 115 = .ok (.istore_n 1, 1) := by decide +kernel
theorem dX9_advance_116 : decode cX9_advance 116 = .ok (.aload_n 0, 1) := by decide +kernel
theorem dX9_advance_117 : decode cX9_advance 117 = .ok (.dup, 1) := by decide +kernel
theorem dX9_advance_118 : decode cX9_advance 118 = .ok (.getfield 28, 3) := by decide +kernel
theorem dX9_advance_121 : decode cX9_advance 121 = .ok (.iconst 1, 1) := by decide +kernel
theorem dX9_advance_122 : decode cX9_advance 122 = .ok (.iadd, 1) := by decide +kernel
theorem dX9_advance_123 : decode cX9_advance 123 = .ok (.putfield 28, 3) := by decide +kernel
theorem dX9_advance_126 : decode cX9_advance 126 = .ok (.iload_n 1, 1) := by decide +kernel
theorem dX9_advance_127 : decode cX9_advance 127 = .ok (.iconst 1, 1) := by decide +kernel
theorem dX9_advance_128 : decode cX9_advance 128 = .ok (.if_icmp .le 46, 3) := by decide +kernel
theorem dX9_advance_131 : decode cX9_advance 131 = .ok (.aload_n 0, 1) := by decide +kernel
theorem dX9_advance_132 : decode cX9_advance 132 = .ok (.getfield 28, 3) := by decide +kernel
theorem dX9_advance_135 : decode cX9_advance 135 = .ok (.aload_n 0, 1) := by decide +kernel
theorem dX9_advance_136 : decode cX9_advance 136 = .ok (.getfield 25, 3) := by decide +kernel
theorem dX9_advance_139 : decode cX9_advance 139 = .ok (.if_icmp .ge 35, 3) := by decide +kernel
theorem dX9_advance_142 : decode cX9_advance 142 = .ok (.aload_n 0, 1) := by decide +kernel
theorem dX9_advance_143 : decode cX9_advance 143 = .ok (.getfield 9, 3) := by decide +kernel
theorem dX9_advance_146 : decode cX9_advance 146 = .ok (.aload_n 0, 1) := by decide +kernel
theorem dX9_advance_147 : decode cX9_advance 147 = .ok (.getfield 28, 3) := by decide +kernel
theorem dX9_advance_150 : decode cX9_advance 150 = .ok (.baload, 1) := by decide +kernel
theorem dX9_advance_151 : decode cX9_advance 151 = .ok (.invokestatic 37, 3) := by decide +kernel
theorem dX9_advance_154 : decode cX9_advance 154 = .ok (.aload_n 0, 1) := by decide +kernel
theorem dX9_advance_155 : decode cX9_advance 155 = .ok (.getfield 41, 3) := by decide +kernel
theorem dX9_advance_158 : decode cX9_advance 158 = .ok (.if_icmp .ne 16, 3) := by decide +kernel
theorem dX9_advance_161 : decode cX9_advance 161 = .ok (.aload_n 0, 1) := by decide +kernel
theorem dX9_advance_162 : decode cX9_advance 162 = .ok (.dup, 1) := by decide +kernel
theorem dX9_advance_163 : decode cX9_advance 163 = .ok (.getfield 28, 3) := by decide +kernel
theorem dX9_advance_166 : decode cX9_advance 166 = .ok (.iconst 1, 1) := by decide +kernel
theorem dX9_advance_167 : decode cX9_advance 167 = .ok (.iadd, 1) := by decide +kernel
theorem dX9_advance_168 : decode cX9_advance 168 = .ok (.putfield 28, 3) := by decide +kernel
theorem dX9_advance_171 : decode cX9_advance 171 = .ok (.goto (-45), 3) := by decide +kernel
theorem dX9_advance_174 : decode cX9_advance 174 = .ok (.aload_n 0, 1) := by decide +kernel
theorem dX9_advance_175 : decode cX9_advance 175 = .ok (.getfield 28, 3) := by decide +kernel
theorem dX9_advance_178 : decode cX9_advance 178 = .ok (.aload_n 0, 1) := by decide +kernel
theorem dX9_advance_179 : decode cX9_advance 179 = .ok (.getfield 34, 3) := by decide +kernel
theorem dX9_advance_182 : decode cX9_advance 182 = .ok (.isub, 1) := by decide +kernel
theorem dX9_advance_183 : decode cX9_advance 183 = .ok (.iload_n 1, 1) := by decide +kernel
theorem dX9_advance_184 : decode cX9_advance 184 = .ok (.if_icmp .le 8, 3) := by decide +kernel
theorem dX9_advance_187 : decode cX9_advance 187 = .ok (.aload_n 0, 1) := by decide +kernel
theorem dX9_advance_188 : decode cX9_advance 188 = .ok (.iconst 4, 1) := by decide +kernel
theorem dX9_advance_189 : decode cX9_advance 189 = .ok (.putfield 41, 3) := by decide +kernel
theorem dX9_advance_192 : decode cX9_advance 192 = .ok (.return_, 1) := by decide +kernel
abbrev LX9_advance_8 (I : MI) (Q : MI → Prop) : Prop := WP mX9_advance 286 Rf0 8 [some (.ref 1), none] [] I (qv Q)
abbrev LX9_advance_48 (I : MI) (Q : MI → Prop) : Prop := WP mX9_advance 286 Rf0 48 [some (.ref 1), none] [] I (qv Q)
abbrev LX9_advance_115 (t0 : Int32) (I : MI) (Q : MI → Prop) : Prop := WP mX9_advance 286 Rf0 115 [some (.ref 1), none] [.int t0] I (qv Q)
abbrev LX9_advance_126 (l1 : Int32) (I : MI) (Q : MI → Prop) : Prop := WP mX9_advance 286 Rf0 126 [some (.ref 1), some (.int l1)] [] I (qv Q)
abbrev LX9_advance_174 (l1 : Int32) (I : MI) (Q : MI → Prop) : Prop := WP mX9_advance 286 Rf0 174 [some (.ref 1), some (.int l1)] [] I (qv Q)
set_option maxRecDepth 20000 in
theorem rX9_advance_8 {I : MI} {Q : MI → Prop} (H : (((I 1 2) ≤ (I 1 3) → (LX9_advance_48  I Q)) ∧ (¬ (I 1 2) ≤ (I 1 3) → (vp_in (I 1 3) 900 ∧ Wi mX9_kindOf [.int (I 2 (I 1 3).toNatClampNeg)] I (fun r2 I1 => ((¬ r2 = 5 → (LX9_advance_48  I1 Q)) ∧ (r2 = 5 → (∀ I3 : MI, I3 = up2 I1 1 3 ((I1 1 3) + 1) → LX9_advance_8  I3 Q)))))))) : LX9_advance_8  I Q := by
  show WP mX9_advance 286 Rf0 8 [some (.ref 1), none] [] I (qv Q)
  refine w_aload_n dX9_advance_8 rfl rfl ?_
  refine w_getI dX9_advance_9 fl_9_34 okC9 kd_1 (by decide) (by decide) rfl ?_
  refine w_aload_n dX9_advance_12 rfl rfl ?_
  refine w_getI dX9_advance_13 fl_9_25 okC9 kd_1 (by decide) (by decide) rfl ?_
  refine w_icmp_ge (t := 48) dX9_advance_16 (by decide) (fun h => ?_) (fun h => ?_)
  · replace H := H.1 h
    skip
    exact H
  · replace H := H.2 h
    refine w_aload_n dX9_advance_19 rfl rfl ?_
    refine w_getR dX9_advance_20 fl_9_9 okC9 kd_1 (by decide) (by decide) rfl rf_1_0 ?_
    refine w_aload_n dX9_advance_23 rfl rfl ?_
    refine w_getI dX9_advance_24 fl_9_34 okC9 kd_1 (by decide) (by decide) rfl ?_
    refine w_bald dX9_advance_27 kd_2 (by decide) H.1 ?_
    replace H := H.2
    refine w_callS (st := []) (As := [.int (I 2 (I 1 3).toNatClampNeg)]) dX9_advance_28 ml_9_37 okX9_kindOf rfl (Nat.le_of_ble_eq_true rfl) (by decide) (Nat.le_of_ble_eq_true rfl) (wc_i H (fun r2 I1 H => ?_))
    refine w_iconst (v := 5) dX9_advance_31 (by decide) ?_
    refine w_icmp_ne (t := 48) dX9_advance_32 (by decide) (fun h => ?_) (fun h => ?_)
    · replace H := H.1 h
      skip
      exact H
    · replace H := H.2 h
      refine w_aload_n dX9_advance_35 rfl rfl ?_
      refine w_dup dX9_advance_36 rfl ?_
      refine w_getI dX9_advance_37 fl_9_34 okC9 kd_1 (by decide) (by decide) rfl ?_
      refine w_iconst (v := 1) dX9_advance_40 (by decide) ?_
      refine w_iadd dX9_advance_41 ?_
      refine w_putI dX9_advance_42 fl_9_34 okC9 kd_1 (by decide) (by decide) rfl rfl rfl (w_up fun I3 hI => ?_)
      replace H := H I3 hI
      refine w_goto (t := 8) dX9_advance_45 (by decide) ?_
      skip
      exact H
set_option maxRecDepth 20000 in
theorem rX9_advance_48 {I : MI} {Q : MI → Prop} (H : (∀ I1 : MI, I1 = up2 I 1 4 (I 1 3) → ((I1 1 3) < (I1 1 2) → (vp_in (I1 1 3) 900 ∧ Wi mX9_kindOf [.int (I1 2 (I1 1 3).toNatClampNeg)] I1 (fun r3 I2 => (∀ I4 : MI, I4 = up2 I2 1 5 r3 → (¬ (I4 1 5) = 1 → ((¬ (I4 1 5) = 2 → (LX9_advance_115 1 I4 Q)) ∧ ((I4 1 5) = 2 → (LX9_advance_115 4 I4 Q)))) ∧ ((I4 1 5) = 1 → (LX9_advance_115 6 I4 Q)))))) ∧ (¬ (I1 1 3) < (I1 1 2) → (∀ I2 : MI, I2 = up2 I1 1 5 0 → Q I2)))) : LX9_advance_48  I Q := by
  show WP mX9_advance 286 Rf0 48 [some (.ref 1), none] [] I (qv Q)
  refine w_aload_n dX9_advance_48 rfl rfl ?_
  refine w_aload_n dX9_advance_49 rfl rfl ?_
  refine w_getI dX9_advance_50 fl_9_34 okC9 kd_1 (by decide) (by decide) rfl ?_
  refine w_putI dX9_advance_53 fl_9_28 okC9 kd_1 (by decide) (by decide) rfl rfl rfl (w_up fun I1 hI => ?_)
  replace H := H I1 hI
  refine w_aload_n dX9_advance_56 rfl rfl ?_
  refine w_getI dX9_advance_57 fl_9_34 okC9 kd_1 (by decide) (by decide) rfl ?_
  refine w_aload_n dX9_advance_60 rfl rfl ?_
  refine w_getI dX9_advance_61 fl_9_25 okC9 kd_1 (by decide) (by decide) rfl ?_
  refine w_icmp_lt (t := 73) dX9_advance_64 (by decide) (fun h => ?_) (fun h => ?_)
  · replace H := H.1 h
    refine w_aload_n dX9_advance_73 rfl rfl ?_
    refine w_aload_n dX9_advance_74 rfl rfl ?_
    refine w_getR dX9_advance_75 fl_9_9 okC9 kd_1 (by decide) (by decide) rfl rf_1_0 ?_
    refine w_aload_n dX9_advance_78 rfl rfl ?_
    refine w_getI dX9_advance_79 fl_9_34 okC9 kd_1 (by decide) (by decide) rfl ?_
    refine w_bald dX9_advance_82 kd_2 (by decide) H.1 ?_
    replace H := H.2
    refine w_callS (st := [.ref 1]) (As := [.int (I1 2 (I1 1 3).toNatClampNeg)]) dX9_advance_83 ml_9_37 okX9_kindOf rfl (Nat.le_of_ble_eq_true rfl) (by decide) (Nat.le_of_ble_eq_true rfl) (wc_i H (fun r3 I2 H => ?_))
    refine w_putI dX9_advance_86 fl_9_41 okC9 kd_1 (by decide) (by decide) rfl rfl rfl (w_up fun I4 hI => ?_)
    replace H := H I4 hI
    refine w_aload_n dX9_advance_89 rfl rfl ?_
    refine w_getI dX9_advance_90 fl_9_41 okC9 kd_1 (by decide) (by decide) rfl ?_
    refine w_iconst (v := 1) dX9_advance_93 (by decide) ?_
    refine w_icmp_ne (t := 102) dX9_advance_94 (by decide) (fun h => ?_) (fun h => ?_)
    · replace H := H.1 h
      refine w_aload_n dX9_advance_102 rfl rfl ?_
      refine w_getI dX9_advance_103 fl_9_41 okC9 kd_1 (by decide) (by decide) rfl ?_
      refine w_iconst (v := 2) dX9_advance_106 (by decide) ?_
      refine w_icmp_ne (t := 114) dX9_advance_107 (by decide) (fun h => ?_) (fun h => ?_)
      · replace H := H.1 h
        refine w_iconst (v := 1) dX9_advance_114 (by decide) ?_
        skip
        exact H
      · replace H := H.2 h
        refine w_iconst (v := 4) dX9_advance_110 (by decide) ?_
        refine w_goto (t := 115) dX9_advance_111 (by decide) ?_
        skip
        exact H
    · replace H := H.2 h
      refine w_bipush (v := 6) dX9_advance_97 (by decide) ?_
      refine w_goto (t := 115) dX9_advance_99 (by decide) ?_
      skip
      exact H
  · replace H := H.2 h
    refine w_aload_n dX9_advance_67 rfl rfl ?_
    refine w_iconst (v := 0) dX9_advance_68 (by decide) ?_
    refine w_putI dX9_advance_69 fl_9_41 okC9 kd_1 (by decide) (by decide) rfl rfl rfl (w_up fun I2 hI => ?_)
    replace H := H I2 hI
    exact w_vret dX9_advance_72 rfl ⟨rfl, H⟩
set_option maxRecDepth 20000 in
theorem rX9_advance_115 {t0 : Int32} {I : MI} {Q : MI → Prop} (H : (∀ I1 : MI, I1 = up2 I 1 4 ((I 1 4) + 1) → LX9_advance_126 t0 I1 Q)) : LX9_advance_115 t0 I Q := by
  show WP mX9_advance 286 Rf0 115 [some (.ref 1), none] [.int t0] I (qv Q)
  refine w_istore_n (ls' := [some (.ref 1), some (.int t0)]) dX9_advance_115 rfl (by decide) rfl rfl ?_
  refine w_aload_n dX9_advance_116 rfl rfl ?_
  refine w_dup dX9_advance_117 rfl ?_
  refine w_getI dX9_advance_118 fl_9_28 okC9 kd_1 (by decide) (by decide) rfl ?_
  refine w_iconst (v := 1) dX9_advance_121 (by decide) ?_
  refine w_iadd dX9_advance_122 ?_
  refine w_putI dX9_advance_123 fl_9_28 okC9 kd_1 (by decide) (by decide) rfl rfl rfl (w_up fun I1 hI => ?_)
  replace H := H I1 hI
  skip
  exact H
set_option maxRecDepth 20000 in
theorem rX9_advance_126 {l1 : Int32} {I : MI} {Q : MI → Prop} (H : ((l1 ≤ 1 → (LX9_advance_174 l1 I Q)) ∧ (¬ l1 ≤ 1 → (((I 1 2) ≤ (I 1 4) → (LX9_advance_174 l1 I Q)) ∧ (¬ (I 1 2) ≤ (I 1 4) → (vp_in (I 1 4) 900 ∧ Wi mX9_kindOf [.int (I 2 (I 1 4).toNatClampNeg)] I (fun r2 I1 => ((¬ r2 = (I1 1 5) → (LX9_advance_174 l1 I1 Q)) ∧ (r2 = (I1 1 5) → (∀ I3 : MI, I3 = up2 I1 1 4 ((I1 1 4) + 1) → LX9_advance_126 l1 I3 Q)))))))))) : LX9_advance_126 l1 I Q := by
  show WP mX9_advance 286 Rf0 126 [some (.ref 1), some (.int l1)] [] I (qv Q)
  refine w_iload_n dX9_advance_126 rfl rfl ?_
  refine w_iconst (v := 1) dX9_advance_127 (by decide) ?_
  refine w_icmp_le (t := 174) dX9_advance_128 (by decide) (fun h => ?_) (fun h => ?_)
  · replace H := H.1 h
    skip
    exact H
  · replace H := H.2 h
    refine w_aload_n dX9_advance_131 rfl rfl ?_
    refine w_getI dX9_advance_132 fl_9_28 okC9 kd_1 (by decide) (by decide) rfl ?_
    refine w_aload_n dX9_advance_135 rfl rfl ?_
    refine w_getI dX9_advance_136 fl_9_25 okC9 kd_1 (by decide) (by decide) rfl ?_
    refine w_icmp_ge (t := 174) dX9_advance_139 (by decide) (fun h => ?_) (fun h => ?_)
    · replace H := H.1 h
      skip
      exact H
    · replace H := H.2 h
      refine w_aload_n dX9_advance_142 rfl rfl ?_
      refine w_getR dX9_advance_143 fl_9_9 okC9 kd_1 (by decide) (by decide) rfl rf_1_0 ?_
      refine w_aload_n dX9_advance_146 rfl rfl ?_
      refine w_getI dX9_advance_147 fl_9_28 okC9 kd_1 (by decide) (by decide) rfl ?_
      refine w_bald dX9_advance_150 kd_2 (by decide) H.1 ?_
      replace H := H.2
      refine w_callS (st := []) (As := [.int (I 2 (I 1 4).toNatClampNeg)]) dX9_advance_151 ml_9_37 okX9_kindOf rfl (Nat.le_of_ble_eq_true rfl) (by decide) (Nat.le_of_ble_eq_true rfl) (wc_i H (fun r2 I1 H => ?_))
      refine w_aload_n dX9_advance_154 rfl rfl ?_
      refine w_getI dX9_advance_155 fl_9_41 okC9 kd_1 (by decide) (by decide) rfl ?_
      refine w_icmp_ne (t := 174) dX9_advance_158 (by decide) (fun h => ?_) (fun h => ?_)
      · replace H := H.1 h
        skip
        exact H
      · replace H := H.2 h
        refine w_aload_n dX9_advance_161 rfl rfl ?_
        refine w_dup dX9_advance_162 rfl ?_
        refine w_getI dX9_advance_163 fl_9_28 okC9 kd_1 (by decide) (by decide) rfl ?_
        refine w_iconst (v := 1) dX9_advance_166 (by decide) ?_
        refine w_iadd dX9_advance_167 ?_
        refine w_putI dX9_advance_168 fl_9_28 okC9 kd_1 (by decide) (by decide) rfl rfl rfl (w_up fun I3 hI => ?_)
        replace H := H I3 hI
        refine w_goto (t := 126) dX9_advance_171 (by decide) ?_
        skip
        exact H
set_option maxRecDepth 20000 in
theorem rX9_advance_174 {l1 : Int32} {I : MI} {Q : MI → Prop} (H : ((((I 1 4) - (I 1 3)) ≤ l1 → (Q I)) ∧ (¬ ((I 1 4) - (I 1 3)) ≤ l1 → (∀ I1 : MI, I1 = up2 I 1 5 4 → Q I1)))) : LX9_advance_174 l1 I Q := by
  show WP mX9_advance 286 Rf0 174 [some (.ref 1), some (.int l1)] [] I (qv Q)
  refine w_aload_n dX9_advance_174 rfl rfl ?_
  refine w_getI dX9_advance_175 fl_9_28 okC9 kd_1 (by decide) (by decide) rfl ?_
  refine w_aload_n dX9_advance_178 rfl rfl ?_
  refine w_getI dX9_advance_179 fl_9_34 okC9 kd_1 (by decide) (by decide) rfl ?_
  refine w_isub dX9_advance_182 ?_
  refine w_iload_n dX9_advance_183 rfl rfl ?_
  refine w_icmp_le (t := 192) dX9_advance_184 (by decide) (fun h => ?_) (fun h => ?_)
  · replace H := H.1 h
    exact w_vret dX9_advance_192 rfl ⟨rfl, H⟩
  · replace H := H.2 h
    refine w_aload_n dX9_advance_187 rfl rfl ?_
    refine w_iconst (v := 4) dX9_advance_188 (by decide) ?_
    refine w_putI dX9_advance_189 fl_9_41 okC9 kd_1 (by decide) (by decide) rfl rfl rfl (w_up fun I1 hI => ?_)
    replace H := H I1 hI
    exact w_vret dX9_advance_192 rfl ⟨rfl, H⟩
set_option maxRecDepth 20000 in
theorem rX9_advance {I : MI} {Q : MI → Prop} (H : (∀ I1 : MI, I1 = up2 I 1 3 (I 1 4) → LX9_advance_8  I1 Q)) : Wv mX9_advance [.ref 1] I Q := by
  show WP mX9_advance 286 Rf0 0 [some (.ref 1), none] [] I (qv Q)
  refine w_aload_n dX9_advance_0 rfl rfl ?_
  refine w_aload_n dX9_advance_1 rfl rfl ?_
  refine w_getI dX9_advance_2 fl_9_28 okC9 kd_1 (by decide) (by decide) rfl ?_
  refine w_putI dX9_advance_5 fl_9_34 okC9 kd_1 (by decide) (by decide) rfl rfl rfl (w_up fun I1 hI => ?_)
  replace H := H I1 hI
  skip
  exact H
theorem dX9_kindOf_0 : decode cX9_kindOf 0 = .ok (.iload_n 0, 1) := by decide +kernel
theorem dX9_kindOf_1 : decode cX9_kindOf 1 = .ok (.bipush 32, 2) := by decide +kernel
theorem dX9_kindOf_3 : decode cX9_kindOf 3 = .ok (.if_icmp .eq 9, 3) := by decide +kernel
theorem dX9_kindOf_6 : decode cX9_kindOf 6 = .ok (.iload_n 0, 1) := by decide +kernel
theorem dX9_kindOf_7 : decode cX9_kindOf 7 = .ok (.bipush 10, 2) := by decide +kernel
theorem dX9_kindOf_9 : decode cX9_kindOf 9 = .ok (.if_icmp .ne 5, 3) := by decide +kernel
theorem dX9_kindOf_12 : decode cX9_kindOf 12 = .ok (.iconst 5, 1) := by decide +kernel
theorem dX9_kindOf_13 : decode cX9_kindOf 13 = .ok (.ireturn, 1) := by decide +kernel
theorem dX9_kindOf_14 : decode cX9_kindOf 14 = .ok (.iload_n 0, 1) := by decide +kernel
theorem dX9_kindOf_15 : decode cX9_kindOf 15 = .ok (.bipush 97, 2) := by decide +kernel
theorem dX9_kindOf_17 : decode cX9_kindOf 17 = .ok (.if_icmp .lt 11, 3) := by decide +kernel
theorem dX9_kindOf_20 : decode cX9_kindOf 20 = .ok (.iload_n 0, 1) := by decide +kernel
theorem dX9_kindOf_21 : decode cX9_kindOf 21 = .ok (.bipush 122, 2) := by decide +kernel
theorem dX9_kindOf_23 : decode cX9_kindOf 23 = .ok (.if_icmp .gt 5, 3) := by decide +kernel
theorem dX9_kindOf_26 : decode cX9_kindOf 26 = .ok (.iconst 1, 1) := by decide +kernel
theorem dX9_kindOf_27 : decode cX9_kindOf 27 = .ok (.ireturn, 1) := by decide +kernel
theorem dX9_kindOf_28 : decode cX9_kindOf 28 = .ok (.iload_n 0, 1) := by decide +kernel
theorem dX9_kindOf_29 : decode cX9_kindOf 29 = .ok (.bipush 48, 2) := by decide +kernel
theorem dX9_kindOf_31 : decode cX9_kindOf 31 = .ok (.if_icmp .lt 11, 3) := by decide +kernel
theorem dX9_kindOf_34 : decode cX9_kindOf 34 = .ok (.iload_n 0, 1) := by decide +kernel
theorem dX9_kindOf_35 : decode cX9_kindOf 35 = .ok (.bipush 57, 2) := by decide +kernel
theorem dX9_kindOf_37 : decode cX9_kindOf 37 = .ok (.if_icmp .gt 5, 3) := by decide +kernel
theorem dX9_kindOf_40 : decode cX9_kindOf 40 = .ok (.iconst 2, 1) := by decide +kernel
theorem dX9_kindOf_41 : decode cX9_kindOf 41 = .ok (.ireturn, 1) := by decide +kernel
theorem dX9_kindOf_42 : decode cX9_kindOf 42 = .ok (.iload_n 0, 1) := by decide +kernel
theorem dX9_kindOf_43 : decode cX9_kindOf 43 = .ok (.bipush 59, 2) := by decide +kernel
theorem dX9_kindOf_45 : decode cX9_kindOf 45 = .ok (.if_icmp .ne 7, 3) := by decide +kernel
theorem dX9_kindOf_48 : decode cX9_kindOf 48 = .ok (.iconst 3, 1) := by decide +kernel
theorem dX9_kindOf_49 : decode cX9_kindOf 49 = .ok (.goto 4, 3) := by decide +kernel
theorem dX9_kindOf_52 : decode cX9_kindOf 52 = .ok (.iconst 4, 1) := by decide +kernel
theorem dX9_kindOf_53 : decode cX9_kindOf 53 = .ok (.ireturn, 1) := by decide +kernel
abbrev LX9_kindOf_28 (l0 : Int32) (I : MI) (Q : Int32 → MI → Prop) : Prop := WP mX9_kindOf 286 Rf0 28 [some (.int l0)] [] I (qi Q)
abbrev LX9_kindOf_42 (l0 : Int32) (I : MI) (Q : Int32 → MI → Prop) : Prop := WP mX9_kindOf 286 Rf0 42 [some (.int l0)] [] I (qi Q)
set_option maxRecDepth 20000 in
theorem rX9_kindOf_28 {l0 : Int32} {I : MI} {Q : Int32 → MI → Prop} (H : ((l0 < 48 → (LX9_kindOf_42 l0 I Q)) ∧ (¬ l0 < 48 → ((57 < l0 → (LX9_kindOf_42 l0 I Q)) ∧ (¬ 57 < l0 → (Q 2 I)))))) : LX9_kindOf_28 l0 I Q := by
  show WP mX9_kindOf 286 Rf0 28 [some (.int l0)] [] I (qi Q)
  refine w_iload_n dX9_kindOf_28 rfl rfl ?_
  refine w_bipush (v := 48) dX9_kindOf_29 (by decide) ?_
  refine w_icmp_lt (t := 42) dX9_kindOf_31 (by decide) (fun h => ?_) (fun h => ?_)
  · replace H := H.1 h
    skip
    exact H
  · replace H := H.2 h
    refine w_iload_n dX9_kindOf_34 rfl rfl ?_
    refine w_bipush (v := 57) dX9_kindOf_35 (by decide) ?_
    refine w_icmp_gt (t := 42) dX9_kindOf_37 (by decide) (fun h => ?_) (fun h => ?_)
    · replace H := H.1 h
      skip
      exact H
    · replace H := H.2 h
      refine w_iconst (v := 2) dX9_kindOf_40 (by decide) ?_
      exact w_iret dX9_kindOf_41 rfl ⟨_, rfl, H⟩
set_option maxRecDepth 20000 in
theorem rX9_kindOf_42 {l0 : Int32} {I : MI} {Q : Int32 → MI → Prop} (H : ((¬ l0 = 59 → (Q 4 I)) ∧ (l0 = 59 → (Q 3 I)))) : LX9_kindOf_42 l0 I Q := by
  show WP mX9_kindOf 286 Rf0 42 [some (.int l0)] [] I (qi Q)
  refine w_iload_n dX9_kindOf_42 rfl rfl ?_
  refine w_bipush (v := 59) dX9_kindOf_43 (by decide) ?_
  refine w_icmp_ne (t := 52) dX9_kindOf_45 (by decide) (fun h => ?_) (fun h => ?_)
  · replace H := H.1 h
    refine w_iconst (v := 4) dX9_kindOf_52 (by decide) ?_
    exact w_iret dX9_kindOf_53 rfl ⟨_, rfl, H⟩
  · replace H := H.2 h
    refine w_iconst (v := 3) dX9_kindOf_48 (by decide) ?_
    refine w_goto (t := 53) dX9_kindOf_49 (by decide) ?_
    exact w_iret dX9_kindOf_53 rfl ⟨_, rfl, H⟩
set_option maxRecDepth 20000 in
theorem rX9_kindOf {a1 : Int32} {I : MI} {Q : Int32 → MI → Prop} (H : ((a1 = 32 → (Q 5 I)) ∧ (¬ a1 = 32 → ((¬ a1 = 10 → ((a1 < 97 → (LX9_kindOf_28 a1 I Q)) ∧ (¬ a1 < 97 → ((122 < a1 → (LX9_kindOf_28 a1 I Q)) ∧ (¬ 122 < a1 → (Q 1 I)))))) ∧ (a1 = 10 → (Q 5 I)))))) : Wi mX9_kindOf [.int a1] I Q := by
  show WP mX9_kindOf 286 Rf0 0 [some (.int a1)] [] I (qi Q)
  refine w_iload_n dX9_kindOf_0 rfl rfl ?_
  refine w_bipush (v := 32) dX9_kindOf_1 (by decide) ?_
  refine w_icmp_eq (t := 12) dX9_kindOf_3 (by decide) (fun h => ?_) (fun h => ?_)
  · replace H := H.1 h
    refine w_iconst (v := 5) dX9_kindOf_12 (by decide) ?_
    exact w_iret dX9_kindOf_13 rfl ⟨_, rfl, H⟩
  · replace H := H.2 h
    refine w_iload_n dX9_kindOf_6 rfl rfl ?_
    refine w_bipush (v := 10) dX9_kindOf_7 (by decide) ?_
    refine w_icmp_ne (t := 14) dX9_kindOf_9 (by decide) (fun h => ?_) (fun h => ?_)
    · replace H := H.1 h
      refine w_iload_n dX9_kindOf_14 rfl rfl ?_
      refine w_bipush (v := 97) dX9_kindOf_15 (by decide) ?_
      refine w_icmp_lt (t := 28) dX9_kindOf_17 (by decide) (fun h => ?_) (fun h => ?_)
      · replace H := H.1 h
        skip
        exact H
      · replace H := H.2 h
        refine w_iload_n dX9_kindOf_20 rfl rfl ?_
        refine w_bipush (v := 122) dX9_kindOf_21 (by decide) ?_
        refine w_icmp_gt (t := 28) dX9_kindOf_23 (by decide) (fun h => ?_) (fun h => ?_)
        · replace H := H.1 h
          skip
          exact H
        · replace H := H.2 h
          refine w_iconst (v := 1) dX9_kindOf_26 (by decide) ?_
          exact w_iret dX9_kindOf_27 rfl ⟨_, rfl, H⟩
    · replace H := H.2 h
      refine w_iconst (v := 5) dX9_kindOf_12 (by decide) ?_
      exact w_iret dX9_kindOf_13 rfl ⟨_, rfl, H⟩
theorem dX9_value_0 : decode cX9_value 0 = .ok (.iconst 0, 1) := by decide +kernel
theorem dX9_value_1 : decode cX9_value 1 = .ok (.istore_n 1, 1) := by decide +kernel
theorem dX9_value_2 : decode cX9_value 2 = .ok (.aload_n 0, 1) := by decide +kernel
theorem dX9_value_3 : decode cX9_value 3 = .ok (.getfield 34, 3) := by decide +kernel
theorem dX9_value_6 : decode cX9_value 6 = .ok (.istore_n 2, 1) := by decide +kernel
theorem dX9_value_7 : decode cX9_value 7 = .ok (.iload_n 2, 1) := by decide +kernel
theorem dX9_value_8 : decode cX9_value 8 = .ok (.aload_n 0, 1) := by decide +kernel
theorem dX9_value_9 : decode cX9_value 9 = .ok (.getfield 28, 3) := by decide +kernel
theorem dX9_value_12 : decode cX9_value 12 = .ok (.if_icmp .ge 24, 3) := by decide +kernel
theorem dX9_value_15 : decode cX9_value 15 = .ok (.iload_n 1, 1) := by decide +kernel
theorem dX9_value_16 : decode cX9_value 16 = .ok (.bipush 10, 2) := by decide +kernel
theorem dX9_value_18 : decode cX9_value 18 = .ok (.imul, 1) := by decide +kernel
theorem dX9_value_19 : decode cX9_value 19 = .ok (.aload_n 0, 1) := by decide +kernel
theorem dX9_value_20 : decode cX9_value 20 = .ok (.getfield 9, 3) := by decide +kernel
theorem dX9_value_23 : decode cX9_value 23 = .ok (.iload_n 2, 1) := by decide +kernel
theorem dX9_value_24 : decode cX9_value 24 = .ok (.baload, 1) := by decide +kernel
theorem dX9_value_25 : decode cX9_value 25 = .ok (.iadd, 1) := by decide +kernel
theorem dX9_value_26 : decode cX9_value 26 = .ok (.bipush 48, 2) := by decide +kernel
theorem dX9_value_28 : decode cX9_value 28 = .ok (.isub, 1) := by decide +kernel
theorem dX9_value_29 : decode cX9_value 29 = .ok (.istore_n 1, 1) := by decide +kernel
theorem dX9_value_30 : decode cX9_value 30 = .ok (.iinc 2 1, 3) := by decide +kernel
theorem dX9_value_33 : decode cX9_value 33 = .ok (.goto (-26), 3) := by decide +kernel
theorem dX9_value_36 : decode cX9_value 36 = .ok (.iload_n 1, 1) := by decide +kernel
theorem dX9_value_37 : decode cX9_value 37 = .ok (.ireturn, 1) := by decide +kernel
abbrev LX9_value_7 (l1 l2 : Int32) (I : MI) (Q : Int32 → MI → Prop) : Prop := WP mX9_value 286 Rf0 7 [some (.ref 1), some (.int l1), some (.int l2)] [] I (qi Q)
set_option maxRecDepth 20000 in
theorem rX9_value_7 {l1 l2 : Int32} {I : MI} {Q : Int32 → MI → Prop} (H : (((I 1 4) ≤ l2 → (Q l1 I)) ∧ (¬ (I 1 4) ≤ l2 → (vp_in l2 900 ∧ LX9_value_7 (((l1 * 10) + (I 2 l2.toNatClampNeg)) - 48) (l2 + 1) I Q)))) : LX9_value_7 l1 l2 I Q := by
  show WP mX9_value 286 Rf0 7 [some (.ref 1), some (.int l1), some (.int l2)] [] I (qi Q)
  refine w_iload_n dX9_value_7 rfl rfl ?_
  refine w_aload_n dX9_value_8 rfl rfl ?_
  refine w_getI dX9_value_9 fl_9_28 okC9 kd_1 (by decide) (by decide) rfl ?_
  refine w_icmp_ge (t := 36) dX9_value_12 (by decide) (fun h => ?_) (fun h => ?_)
  · replace H := H.1 h
    refine w_iload_n dX9_value_36 rfl rfl ?_
    exact w_iret dX9_value_37 rfl ⟨_, rfl, H⟩
  · replace H := H.2 h
    refine w_iload_n dX9_value_15 rfl rfl ?_
    refine w_bipush (v := 10) dX9_value_16 (by decide) ?_
    refine w_imul dX9_value_18 ?_
    refine w_aload_n dX9_value_19 rfl rfl ?_
    refine w_getR dX9_value_20 fl_9_9 okC9 kd_1 (by decide) (by decide) rfl rf_1_0 ?_
    refine w_iload_n dX9_value_23 rfl rfl ?_
    refine w_bald dX9_value_24 kd_2 (by decide) H.1 ?_
    replace H := H.2
    refine w_iadd dX9_value_25 ?_
    refine w_bipush (v := 48) dX9_value_26 (by decide) ?_
    refine w_isub dX9_value_28 ?_
    refine w_istore_n (ls' := [some (.ref 1), some (.int (((l1 * 10) + (I 2 l2.toNatClampNeg)) - 48)), some (.int l2)]) dX9_value_29 rfl (by decide) rfl rfl ?_
    refine w_iinc (v := l2 + 1) (ls' := [some (.ref 1), some (.int (((l1 * 10) + (I 2 l2.toNatClampNeg)) - 48)), some (.int (l2 + 1))]) dX9_value_30 rfl rfl (by decide) rfl rfl ?_
    refine w_goto (t := 7) dX9_value_33 (by decide) ?_
    skip
    exact H
set_option maxRecDepth 20000 in
theorem rX9_value {I : MI} {Q : Int32 → MI → Prop} (H : (LX9_value_7 0 (I 1 3) I Q)) : Wi mX9_value [.ref 1] I Q := by
  show WP mX9_value 286 Rf0 0 [some (.ref 1), none, none] [] I (qi Q)
  refine w_iconst (v := 0) dX9_value_0 (by decide) ?_
  refine w_istore_n (ls' := [some (.ref 1), some (.int 0), none]) dX9_value_1 rfl (by decide) rfl rfl ?_
  refine w_aload_n dX9_value_2 rfl rfl ?_
  refine w_getI dX9_value_3 fl_9_34 okC9 kd_1 (by decide) (by decide) rfl ?_
  refine w_istore_n (ls' := [some (.ref 1), some (.int 0), some (.int (I 1 3))]) dX9_value_6 rfl (by decide) rfl rfl ?_
  skip
  exact H
theorem dX10_demandOf_0 : decode cX10_demandOf 0 = .ok (.aload_n 0, 1) := by decide +kernel
theorem dX10_demandOf_1 : decode cX10_demandOf 1 = .ok (.getfield 15, 3) := by decide +kernel
theorem dX10_demandOf_4 : decode cX10_demandOf 4 = .ok (.iload_n 1, 1) := by decide +kernel
theorem dX10_demandOf_5 : decode cX10_demandOf 5 = .ok (.invokevirtual 19, 3) := by decide +kernel
theorem dX10_demandOf_8 : decode cX10_demandOf 8 = .ok (.ifCond .eq 5, 3) := by decide +kernel
theorem dX10_demandOf_11 : decode cX10_demandOf 11 = .ok (.iconst 0, 1) := by decide +kernel
theorem dX10_demandOf_12 : decode cX10_demandOf 12 = .ok (.ireturn, 1) := by decide +kernel
theorem dX10_demandOf_13 : decode cX10_demandOf 13 = .ok (.aload_n 0, 1) := by decide +kernel
theorem dX10_demandOf_14 : decode cX10_demandOf 14 = .ok (.getfield 15, 3) := by decide +kernel
theorem dX10_demandOf_17 : decode cX10_demandOf 17 = .ok (.getfield 25, 3) := by decide +kernel
theorem dX10_demandOf_20 : decode cX10_demandOf 20 = .ok (.iload_n 1, 1) := by decide +kernel
theorem dX10_demandOf_21 : decode cX10_demandOf 21 = .ok (.bipush 7, 2) := by decide +kernel
theorem dX10_demandOf_23 : decode cX10_demandOf 23 = .ok (.imul, 1) := by decide +kernel
theorem dX10_demandOf_24 : decode cX10_demandOf 24 = .ok (.aload_n 0, 1) := by decide +kernel
theorem dX10_demandOf_25 : decode cX10_demandOf 25 = .ok (.getfield 15, 3) := by decide +kernel
theorem dX10_demandOf_28 : decode cX10_demandOf 28 = .ok (.getfield 29, 3) := by decide +kernel
theorem dX10_demandOf_31 : decode cX10_demandOf 31 = .ok (.bipush 7, 2) := by decide +kernel
theorem dX10_demandOf_33 : decode cX10_demandOf 33 = .ok (.irem, 1) := by decide +kernel
theorem dX10_demandOf_34 : decode cX10_demandOf 34 = .ok (.iadd, 1) := by decide +kernel
theorem dX10_demandOf_35 : decode cX10_demandOf 35 = .ok (.iaload, 1) := by decide +kernel
theorem dX10_demandOf_36 : decode cX10_demandOf 36 = .ok (.ireturn, 1) := by decide +kernel
set_option maxRecDepth 20000 in
theorem rX10_demandOf {a1 : Int32} {I : MI} {Q : Int32 → MI → Prop} (H : (Wi mX8_isSkipped [.ref 30, .int a1] I (fun r2 I1 => ((r2 = 0 → (vp_in ((a1 * 7) + ((I1 30 0) - (I1 30 0) / 7 * 7)) 84 ∧ Q (I1 31 ((a1 * 7) + ((I1 30 0) - (I1 30 0) / 7 * 7)).toNatClampNeg) I1)) ∧ (¬ r2 = 0 → (Q 0 I1)))))) : Wi mX10_demandOf [.ref 44, .int a1] I Q := by
  show WP mX10_demandOf 286 Rf0 0 [some (.ref 44), some (.int a1)] [] I (qi Q)
  refine w_aload_n dX10_demandOf_0 rfl rfl ?_
  refine w_getR dX10_demandOf_1 fl_10_15 okC10 kd_44 (by decide) (by decide) rfl rf_44_1 ?_
  refine w_iload_n dX10_demandOf_4 rfl rfl ?_
  refine w_callV (st := []) (As := [.int a1]) dX10_demandOf_5 ml_10_19 okX8_isSkipped kd_30 (by decide) rfl rfl rfl (Nat.le_of_ble_eq_true rfl) (by decide) (Nat.le_of_ble_eq_true rfl) (wc_i H (fun r2 I1 H => ?_))
  refine w_if_eq (t := 13) dX10_demandOf_8 (by decide) (fun h => ?_) (fun h => ?_)
  · replace H := H.1 h
    refine w_aload_n dX10_demandOf_13 rfl rfl ?_
    refine w_getR dX10_demandOf_14 fl_10_15 okC10 kd_44 (by decide) (by decide) rfl rf_44_1 ?_
    refine w_getR dX10_demandOf_17 fl_10_25 okC8 kd_30 (by decide) (by decide) rfl rf_30_2 ?_
    refine w_iload_n dX10_demandOf_20 rfl rfl ?_
    refine w_bipush (v := 7) dX10_demandOf_21 (by decide) ?_
    refine w_imul dX10_demandOf_23 ?_
    refine w_aload_n dX10_demandOf_24 rfl rfl ?_
    refine w_getR dX10_demandOf_25 fl_10_15 okC10 kd_44 (by decide) (by decide) rfl rf_44_1 ?_
    refine w_getI dX10_demandOf_28 fl_10_29 okC8 kd_30 (by decide) (by decide) rfl ?_
    refine w_bipush (v := 7) dX10_demandOf_31 (by decide) ?_
    refine w_irem dX10_demandOf_33 (by decide) ?_
    refine w_iadd dX10_demandOf_34 ?_
    refine w_iald dX10_demandOf_35 kd_31 (by decide) H.1 ?_
    replace H := H.2
    exact w_iret dX10_demandOf_36 rfl ⟨_, rfl, H⟩
  · replace H := H.2 h
    refine w_iconst (v := 0) dX10_demandOf_11 (by decide) ?_
    exact w_iret dX10_demandOf_12 rfl ⟨_, rfl, H⟩
theorem dX10_demandAtNode_0 : decode cX10_demandAtNode 0 = .ok (.iconst 0, 1) := by decide +kernel
theorem dX10_demandAtNode_1 : decode cX10_demandAtNode 1 = .ok (.istore_n 2, 1) := by decide +kernel
theorem dX10_demandAtNode_2 : decode cX10_demandAtNode 2 = .ok (.iconst 0, 1) := by decide +kernel
theorem dX10_demandAtNode_3 : decode cX10_demandAtNode 3 = .ok (.istore_n 3, 1) := by decide +kernel
theorem dX10_demandAtNode_4 : decode cX10_demandAtNode 4 = .ok (.iload_n 3, 1) := by decide +kernel
theorem dX10_demandAtNode_5 : decode cX10_demandAtNode 5 = .ok (.aload_n 0, 1) := by decide +kernel
theorem dX10_demandAtNode_6 : decode cX10_demandAtNode 6 = .ok (.getfield 9, 3) := by decide +kernel
theorem dX10_demandAtNode_9 : decode cX10_demandAtNode 9 = .ok (.getfield 33, 3) := by decide +kernel
theorem dX10_demandAtNode_12 : decode cX10_demandAtNode 12 = .ok (.if_icmp .ge 30, 3) := by decide +kernel
theorem dX10_demandAtNode_15 : decode cX10_demandAtNode 15 = .ok (.aload_n 0, 1) := by decide +kernel
theorem dX10_demandAtNode_16 : decode cX10_demandAtNode 16 = .ok (.getfield 9, 3) := by decide +kernel
theorem dX10_demandAtNode_19 : decode cX10_demandAtNode 19 = .ok (.getfield 38, 3) := by decide +kernel
theorem dX10_demandAtNode_22 : decode cX10_demandAtNode 22 = .ok (.iload_n 3, 1) := by decide +kernel
theorem dX10_demandAtNode_23 : decode cX10_demandAtNode 23 = .ok (.iaload, 1) := by decide +kernel
theorem dX10_demandAtNode_24 : decode cX10_demandAtNode 24 = .ok (.iload_n 1, 1) := by decide +kernel
theorem dX10_demandAtNode_25 : decode cX10_demandAtNode 25 = .ok (.if_icmp .ne 11, 3) := by decide +kernel
theorem dX10_demandAtNode_28 : decode cX10_demandAtNode 28 = .ok (.iload_n 2, 1) := by decide +kernel
theorem dX10_demandAtNode_29 : decode cX10_demandAtNode 29 = .ok (.aload_n 0, 1) := by decide +kernel
theorem dX10_demandAtNode_30 : decode cX10_demandAtNode 30 = .ok (.iload_n 3, 1) := by decide +kernel
theorem dX10_demandAtNode_31 : decode cX10_demandAtNode 31 = .ok (.invokevirtual 41, 3) := by decide +kernel
theorem dX10_demandAtNode_34 : decode cX10_demandAtNode 34 = .ok (.iadd, 1) := by decide +kernel
theorem dX10_demandAtNode_35 : decode cX10_demandAtNode 35 = .ok (.istore_n 2, 1) := by decide +kernel
theorem dX10_demandAtNode_36 : decode cX10_demandAtNode 36 = .ok (.iinc 3 1, 3) := by decide +kernel
theorem dX10_demandAtNode_39 : decode cX10_demandAtNode 39 = .ok (.goto (-35), 3) := by decide +kernel
theorem dX10_demandAtNode_42 : decode cX10_demandAtNode 42 = .ok (.iload_n 2, 1) := by decide +kernel
theorem dX10_demandAtNode_43 : decode cX10_demandAtNode 43 = .ok (.ireturn, 1) := by decide +kernel
abbrev LX10_demandAtNode_4 (l1 l2 l3 : Int32) (I : MI) (Q : Int32 → MI → Prop) : Prop := WP mX10_demandAtNode 286 Rf0 4 [some (.ref 44), some (.int l1), some (.int l2), some (.int l3)] [] I (qi Q)
abbrev LX10_demandAtNode_36 (l1 l2 l3 : Int32) (I : MI) (Q : Int32 → MI → Prop) : Prop := WP mX10_demandAtNode 286 Rf0 36 [some (.ref 44), some (.int l1), some (.int l2), some (.int l3)] [] I (qi Q)
set_option maxRecDepth 20000 in
theorem rX10_demandAtNode_4 {l1 l2 l3 : Int32} {I : MI} {Q : Int32 → MI → Prop} (H : (((I 24 2) ≤ l3 → (Q l2 I)) ∧ (¬ (I 24 2) ≤ l3 → (vp_in l3 12 ∧ (¬ (I 28 l3.toNatClampNeg) = l1 → (LX10_demandAtNode_36 l1 l2 l3 I Q)) ∧ ((I 28 l3.toNatClampNeg) = l1 → (Wi mX10_demandOf [.ref 44, .int l3] I (fun r2 I1 => (LX10_demandAtNode_36 l1 (l2 + r2) l3 I1 Q)))))))) : LX10_demandAtNode_4 l1 l2 l3 I Q := by
  show WP mX10_demandAtNode 286 Rf0 4 [some (.ref 44), some (.int l1), some (.int l2), some (.int l3)] [] I (qi Q)
  refine w_iload_n dX10_demandAtNode_4 rfl rfl ?_
  refine w_aload_n dX10_demandAtNode_5 rfl rfl ?_
  refine w_getR dX10_demandAtNode_6 fl_10_9 okC10 kd_44 (by decide) (by decide) rfl rf_44_0 ?_
  refine w_getI dX10_demandAtNode_9 fl_10_33 okC6 kd_24 (by decide) (by decide) rfl ?_
  refine w_icmp_ge (t := 42) dX10_demandAtNode_12 (by decide) (fun h => ?_) (fun h => ?_)
  · replace H := H.1 h
    refine w_iload_n dX10_demandAtNode_42 rfl rfl ?_
    exact w_iret dX10_demandAtNode_43 rfl ⟨_, rfl, H⟩
  · replace H := H.2 h
    refine w_aload_n dX10_demandAtNode_15 rfl rfl ?_
    refine w_getR dX10_demandAtNode_16 fl_10_9 okC10 kd_44 (by decide) (by decide) rfl rf_44_0 ?_
    refine w_getR dX10_demandAtNode_19 fl_10_38 okC6 kd_24 (by decide) (by decide) rfl rf_24_10 ?_
    refine w_iload_n dX10_demandAtNode_22 rfl rfl ?_
    refine w_iald dX10_demandAtNode_23 kd_28 (by decide) H.1 ?_
    replace H := H.2
    refine w_iload_n dX10_demandAtNode_24 rfl rfl ?_
    refine w_icmp_ne (t := 36) dX10_demandAtNode_25 (by decide) (fun h => ?_) (fun h => ?_)
    · replace H := H.1 h
      skip
      exact H
    · replace H := H.2 h
      refine w_iload_n dX10_demandAtNode_28 rfl rfl ?_
      refine w_aload_n dX10_demandAtNode_29 rfl rfl ?_
      refine w_iload_n dX10_demandAtNode_30 rfl rfl ?_
      refine w_callV (st := [.int l2]) (As := [.int l3]) dX10_demandAtNode_31 ml_10_41 okX10_demandOf kd_44 (by decide) rfl rfl rfl (Nat.le_of_ble_eq_true rfl) (by decide) (Nat.le_of_ble_eq_true rfl) (wc_i H (fun r2 I1 H => ?_))
      refine w_iadd dX10_demandAtNode_34 ?_
      refine w_istore_n (ls' := [some (.ref 44), some (.int l1), some (.int (l2 + r2)), some (.int l3)]) dX10_demandAtNode_35 rfl (by decide) rfl rfl ?_
      skip
      exact H
set_option maxRecDepth 20000 in
theorem rX10_demandAtNode_36 {l1 l2 l3 : Int32} {I : MI} {Q : Int32 → MI → Prop} (H : (LX10_demandAtNode_4 l1 l2 (l3 + 1) I Q)) : LX10_demandAtNode_36 l1 l2 l3 I Q := by
  show WP mX10_demandAtNode 286 Rf0 36 [some (.ref 44), some (.int l1), some (.int l2), some (.int l3)] [] I (qi Q)
  refine w_iinc (v := l3 + 1) (ls' := [some (.ref 44), some (.int l1), some (.int l2), some (.int (l3 + 1))]) dX10_demandAtNode_36 rfl rfl (by decide) rfl rfl ?_
  refine w_goto (t := 4) dX10_demandAtNode_39 (by decide) ?_
  skip
  exact H
set_option maxRecDepth 20000 in
theorem rX10_demandAtNode {a1 : Int32} {I : MI} {Q : Int32 → MI → Prop} (H : (LX10_demandAtNode_4 a1 0 0 I Q)) : Wi mX10_demandAtNode [.ref 44, .int a1] I Q := by
  show WP mX10_demandAtNode 286 Rf0 0 [some (.ref 44), some (.int a1), none, none] [] I (qi Q)
  refine w_iconst (v := 0) dX10_demandAtNode_0 (by decide) ?_
  refine w_istore_n (ls' := [some (.ref 44), some (.int a1), some (.int 0), none]) dX10_demandAtNode_1 rfl (by decide) rfl rfl ?_
  refine w_iconst (v := 0) dX10_demandAtNode_2 (by decide) ?_
  refine w_istore_n (ls' := [some (.ref 44), some (.int a1), some (.int 0), some (.int 0)]) dX10_demandAtNode_3 rfl (by decide) rfl rfl ?_
  skip
  exact H
theorem dX10_sumOfDemands_0 : decode cX10_sumOfDemands 0 = .ok (.iconst 0, 1) := by decide +kernel
theorem dX10_sumOfDemands_1 : decode cX10_sumOfDemands 1 = .ok (.istore_n 1, 1) := by decide +kernel
theorem dX10_sumOfDemands_2 : decode cX10_sumOfDemands 2 = .ok (.iconst 0, 1) := by decide +kernel
theorem dX10_sumOfDemands_3 : decode cX10_sumOfDemands 3 = .ok (.istore_n 2, 1) := by decide +kernel
theorem dX10_sumOfDemands_4 : decode cX10_sumOfDemands 4 = .ok (.iload_n 2, 1) := by decide +kernel
theorem dX10_sumOfDemands_5 : decode cX10_sumOfDemands 5 = .ok (.aload_n 0, 1) := by decide +kernel
theorem dX10_sumOfDemands_6 : decode cX10_sumOfDemands 6 = .ok (.getfield 9, 3) := by decide +kernel
theorem dX10_sumOfDemands_9 : decode cX10_sumOfDemands 9 = .ok (.getfield 33, 3) := by decide +kernel
theorem dX10_sumOfDemands_12 : decode cX10_sumOfDemands 12 = .ok (.if_icmp .ge 17, 3) := by decide +kernel
theorem dX10_sumOfDemands_15 : decode cX10_sumOfDemands 15 = .ok (.iload_n 1, 1) := by decide +kernel
theorem dX10_sumOfDemands_16 : decode cX10_sumOfDemands 16 = .ok (.aload_n 0, 1) := by decide +kernel
theorem dX10_sumOfDemands_17 : decode cX10_sumOfDemands 17 = .ok (.iload_n 2, 1) := by decide +kernel
theorem dX10_sumOfDemands_18 : decode cX10_sumOfDemands 18 = .ok (.invokevirtual 41, 3) := by decide +kernel
theorem dX10_sumOfDemands_21 : decode cX10_sumOfDemands 21 = .ok (.iadd, 1) := by decide +kernel
theorem dX10_sumOfDemands_22 : decode cX10_sumOfDemands 22 = .ok (.istore_n 1, 1) := by decide +kernel
theorem dX10_sumOfDemands_23 : decode cX10_sumOfDemands 23 = .ok (.iinc 2 1, 3) := by decide +kernel
theorem dX10_sumOfDemands_26 : decode cX10_sumOfDemands 26 = .ok (.goto (-22), 3) := by decide +kernel
theorem dX10_sumOfDemands_29 : decode cX10_sumOfDemands 29 = .ok (.iload_n 1, 1) := by decide +kernel
theorem dX10_sumOfDemands_30 : decode cX10_sumOfDemands 30 = .ok (.ireturn, 1) := by decide +kernel
abbrev LX10_sumOfDemands_4 (l1 l2 : Int32) (I : MI) (Q : Int32 → MI → Prop) : Prop := WP mX10_sumOfDemands 286 Rf0 4 [some (.ref 44), some (.int l1), some (.int l2)] [] I (qi Q)
set_option maxRecDepth 20000 in
theorem rX10_sumOfDemands_4 {l1 l2 : Int32} {I : MI} {Q : Int32 → MI → Prop} (H : (((I 24 2) ≤ l2 → (Q l1 I)) ∧ (¬ (I 24 2) ≤ l2 → (Wi mX10_demandOf [.ref 44, .int l2] I (fun r2 I1 => (LX10_sumOfDemands_4 (l1 + r2) (l2 + 1) I1 Q)))))) : LX10_sumOfDemands_4 l1 l2 I Q := by
  show WP mX10_sumOfDemands 286 Rf0 4 [some (.ref 44), some (.int l1), some (.int l2)] [] I (qi Q)
  refine w_iload_n dX10_sumOfDemands_4 rfl rfl ?_
  refine w_aload_n dX10_sumOfDemands_5 rfl rfl ?_
  refine w_getR dX10_sumOfDemands_6 fl_10_9 okC10 kd_44 (by decide) (by decide) rfl rf_44_0 ?_
  refine w_getI dX10_sumOfDemands_9 fl_10_33 okC6 kd_24 (by decide) (by decide) rfl ?_
  refine w_icmp_ge (t := 29) dX10_sumOfDemands_12 (by decide) (fun h => ?_) (fun h => ?_)
  · replace H := H.1 h
    refine w_iload_n dX10_sumOfDemands_29 rfl rfl ?_
    exact w_iret dX10_sumOfDemands_30 rfl ⟨_, rfl, H⟩
  · replace H := H.2 h
    refine w_iload_n dX10_sumOfDemands_15 rfl rfl ?_
    refine w_aload_n dX10_sumOfDemands_16 rfl rfl ?_
    refine w_iload_n dX10_sumOfDemands_17 rfl rfl ?_
    refine w_callV (st := [.int l1]) (As := [.int l2]) dX10_sumOfDemands_18 ml_10_41 okX10_demandOf kd_44 (by decide) rfl rfl rfl (Nat.le_of_ble_eq_true rfl) (by decide) (Nat.le_of_ble_eq_true rfl) (wc_i H (fun r2 I1 H => ?_))
    refine w_iadd dX10_sumOfDemands_21 ?_
    refine w_istore_n (ls' := [some (.ref 44), some (.int (l1 + r2)), some (.int l2)]) dX10_sumOfDemands_22 rfl (by decide) rfl rfl ?_
    refine w_iinc (v := l2 + 1) (ls' := [some (.ref 44), some (.int (l1 + r2)), some (.int (l2 + 1))]) dX10_sumOfDemands_23 rfl rfl (by decide) rfl rfl ?_
    refine w_goto (t := 4) dX10_sumOfDemands_26 (by decide) ?_
    skip
    exact H
set_option maxRecDepth 20000 in
theorem rX10_sumOfDemands {I : MI} {Q : Int32 → MI → Prop} (H : (LX10_sumOfDemands_4 0 0 I Q)) : Wi mX10_sumOfDemands [.ref 44] I Q := by
  show WP mX10_sumOfDemands 286 Rf0 0 [some (.ref 44), none, none] [] I (qi Q)
  refine w_iconst (v := 0) dX10_sumOfDemands_0 (by decide) ?_
  refine w_istore_n (ls' := [some (.ref 44), some (.int 0), none]) dX10_sumOfDemands_1 rfl (by decide) rfl rfl ?_
  refine w_iconst (v := 0) dX10_sumOfDemands_2 (by decide) ?_
  refine w_istore_n (ls' := [some (.ref 44), some (.int 0), some (.int 0)]) dX10_sumOfDemands_3 rfl (by decide) rfl rfl ?_
  skip
  exact H
theorem dX10_stopSet_0 : decode cX10_stopSet 0 = .ok (.iconst 0, 1) := by decide +kernel
theorem dX10_stopSet_1 : decode cX10_stopSet 1 = .ok (.istore_n 1, 1) := by decide +kernel
theorem dX10_stopSet_2 : decode cX10_stopSet 2 = .ok (.iconst 0, 1) := by decide +kernel
theorem dX10_stopSet_3 : decode cX10_stopSet 3 = .ok (.istore_n 2, 1) := by decide +kernel
theorem dX10_stopSet_4 : decode cX10_stopSet 4 = .ok (.iload_n 2, 1) := by decide +kernel
theorem dX10_stopSet_5 : decode cX10_stopSet 5 = .ok (.aload_n 0, 1) := by decide +kernel
theorem dX10_stopSet_6 : decode cX10_stopSet 6 = .ok (.getfield 9, 3) := by decide +kernel
theorem dX10_stopSet_9 : decode cX10_stopSet 9 = .ok (.getfield 33, 3) := by decide +kernel
theorem dX10_stopSet_12 : decode cX10_stopSet 12 = .ok (.if_icmp .ge 31, 3) := by decide +kernel
theorem dX10_stopSet_15 : decode cX10_stopSet 15 = .ok (.aload_n 0, 1) := by decide +kernel
theorem dX10_stopSet_16 : decode cX10_stopSet 16 = .ok (.iload_n 2, 1) := by decide +kernel
theorem dX10_stopSet_17 : decode cX10_stopSet 17 = .ok (.invokevirtual 41, 3) := by decide +kernel
theorem dX10_stopSet_20 : decode cX10_stopSet 20 = .ok (.ifCond .le 17, 3) := by decide +kernel
theorem dX10_stopSet_23 : decode cX10_stopSet 23 = .ok (.iload_n 1, 1) := by decide +kernel
theorem dX10_stopSet_24 : decode cX10_stopSet 24 = .ok (.iconst 1, 1) := by decide +kernel
theorem dX10_stopSet_25 : decode cX10_stopSet 25 = .ok (.aload_n 0, 1) := by decide +kernel
theorem dX10_stopSet_26 : decode cX10_stopSet 26 = .ok (.getfield 9, 3) := by decide +kernel
theorem dX10_stopSet_29 : decode cX10_stopSet 29 = .ok (.getfield 38, 3) := by decide +kernel
theorem dX10_stopSet_32 : decode cX10_stopSet 32 = .ok (.iload_n 2, 1) := by decide +kernel
theorem dX10_stopSet_33 : decode cX10_stopSet 33 = .ok (.iaload, 1) := by decide +kernel
theorem dX10_stopSet_34 : decode cX10_stopSet 34 = .ok (.ishl, 1) := by decide +kernel
theorem dX10_stopSet_35 : decode cX10_stopSet 35 = .ok (.ior, 1) := by decide +kernel
theorem dX10_stopSet_36 : decode cX10_stopSet 36 = .ok (.istore_n 1, 1) := by decide +kernel
theorem dX10_stopSet_37 : decode cX10_stopSet 37 = .ok (.iinc 2 1, 3) := by decide +kernel
theorem dX10_stopSet_40 : decode cX10_stopSet 40 = .ok (.goto (-36), 3) := by decide +kernel
theorem dX10_stopSet_43 : decode cX10_stopSet 43 = .ok (.iload_n 1, 1) := by decide +kernel
theorem dX10_stopSet_44 : decode cX10_stopSet 44 = .ok (.ireturn, 1) := by decide +kernel
abbrev LX10_stopSet_4 (l1 l2 : Int32) (I : MI) (Q : Int32 → MI → Prop) : Prop := WP mX10_stopSet 286 Rf0 4 [some (.ref 44), some (.int l1), some (.int l2)] [] I (qi Q)
abbrev LX10_stopSet_37 (l1 l2 : Int32) (I : MI) (Q : Int32 → MI → Prop) : Prop := WP mX10_stopSet 286 Rf0 37 [some (.ref 44), some (.int l1), some (.int l2)] [] I (qi Q)
set_option maxRecDepth 20000 in
theorem rX10_stopSet_4 {l1 l2 : Int32} {I : MI} {Q : Int32 → MI → Prop} (H : (((I 24 2) ≤ l2 → (Q l1 I)) ∧ (¬ (I 24 2) ≤ l2 → (Wi mX10_demandOf [.ref 44, .int l2] I (fun r2 I1 => ((r2 ≤ 0 → (LX10_stopSet_37 l1 l2 I1 Q)) ∧ (¬ r2 ≤ 0 → (vp_in l2 12 ∧ LX10_stopSet_37 (l1 ||| ((1 : Int32) <<< ((I1 28 l2.toNatClampNeg) &&& 31))) l2 I1 Q)))))))) : LX10_stopSet_4 l1 l2 I Q := by
  show WP mX10_stopSet 286 Rf0 4 [some (.ref 44), some (.int l1), some (.int l2)] [] I (qi Q)
  refine w_iload_n dX10_stopSet_4 rfl rfl ?_
  refine w_aload_n dX10_stopSet_5 rfl rfl ?_
  refine w_getR dX10_stopSet_6 fl_10_9 okC10 kd_44 (by decide) (by decide) rfl rf_44_0 ?_
  refine w_getI dX10_stopSet_9 fl_10_33 okC6 kd_24 (by decide) (by decide) rfl ?_
  refine w_icmp_ge (t := 43) dX10_stopSet_12 (by decide) (fun h => ?_) (fun h => ?_)
  · replace H := H.1 h
    refine w_iload_n dX10_stopSet_43 rfl rfl ?_
    exact w_iret dX10_stopSet_44 rfl ⟨_, rfl, H⟩
  · replace H := H.2 h
    refine w_aload_n dX10_stopSet_15 rfl rfl ?_
    refine w_iload_n dX10_stopSet_16 rfl rfl ?_
    refine w_callV (st := []) (As := [.int l2]) dX10_stopSet_17 ml_10_41 okX10_demandOf kd_44 (by decide) rfl rfl rfl (Nat.le_of_ble_eq_true rfl) (by decide) (Nat.le_of_ble_eq_true rfl) (wc_i H (fun r2 I1 H => ?_))
    refine w_if_le (t := 37) dX10_stopSet_20 (by decide) (fun h => ?_) (fun h => ?_)
    · replace H := H.1 h
      skip
      exact H
    · replace H := H.2 h
      refine w_iload_n dX10_stopSet_23 rfl rfl ?_
      refine w_iconst (v := 1) dX10_stopSet_24 (by decide) ?_
      refine w_aload_n dX10_stopSet_25 rfl rfl ?_
      refine w_getR dX10_stopSet_26 fl_10_9 okC10 kd_44 (by decide) (by decide) rfl rf_44_0 ?_
      refine w_getR dX10_stopSet_29 fl_10_38 okC6 kd_24 (by decide) (by decide) rfl rf_24_10 ?_
      refine w_iload_n dX10_stopSet_32 rfl rfl ?_
      refine w_iald dX10_stopSet_33 kd_28 (by decide) H.1 ?_
      replace H := H.2
      refine w_ishl dX10_stopSet_34 ?_
      refine w_ior dX10_stopSet_35 ?_
      refine w_istore_n (ls' := [some (.ref 44), some (.int (l1 ||| ((1 : Int32) <<< ((I1 28 l2.toNatClampNeg) &&& 31)))), some (.int l2)]) dX10_stopSet_36 rfl (by decide) rfl rfl ?_
      skip
      exact H
set_option maxRecDepth 20000 in
theorem rX10_stopSet_37 {l1 l2 : Int32} {I : MI} {Q : Int32 → MI → Prop} (H : (LX10_stopSet_4 l1 (l2 + 1) I Q)) : LX10_stopSet_37 l1 l2 I Q := by
  show WP mX10_stopSet 286 Rf0 37 [some (.ref 44), some (.int l1), some (.int l2)] [] I (qi Q)
  refine w_iinc (v := l2 + 1) (ls' := [some (.ref 44), some (.int l1), some (.int (l2 + 1))]) dX10_stopSet_37 rfl rfl (by decide) rfl rfl ?_
  refine w_goto (t := 4) dX10_stopSet_40 (by decide) ?_
  skip
  exact H
set_option maxRecDepth 20000 in
theorem rX10_stopSet {I : MI} {Q : Int32 → MI → Prop} (H : (LX10_stopSet_4 0 0 I Q)) : Wi mX10_stopSet [.ref 44] I Q := by
  show WP mX10_stopSet 286 Rf0 0 [some (.ref 44), none, none] [] I (qi Q)
  refine w_iconst (v := 0) dX10_stopSet_0 (by decide) ?_
  refine w_istore_n (ls' := [some (.ref 44), some (.int 0), none]) dX10_stopSet_1 rfl (by decide) rfl rfl ?_
  refine w_iconst (v := 0) dX10_stopSet_2 (by decide) ?_
  refine w_istore_n (ls' := [some (.ref 44), some (.int 0), some (.int 0)]) dX10_stopSet_3 rfl (by decide) rfl rfl ?_
  skip
  exact H
theorem dX10_visitMinutes_0 : decode cX10_visitMinutes 0 = .ok (.iconst 2, 1) := by decide +kernel
theorem dX10_visitMinutes_1 : decode cX10_visitMinutes 1 = .ok (.aload_n 0, 1) := by decide +kernel
theorem dX10_visitMinutes_2 : decode cX10_visitMinutes 2 = .ok (.getfield 9, 3) := by decide +kernel
theorem dX10_visitMinutes_5 : decode cX10_visitMinutes 5 = .ok (.getfield 45, 3) := by decide +kernel
theorem dX10_visitMinutes_8 : decode cX10_visitMinutes 8 = .ok (.iload_n 1, 1) := by decide +kernel
theorem dX10_visitMinutes_9 : decode cX10_visitMinutes 9 = .ok (.iaload, 1) := by decide +kernel
theorem dX10_visitMinutes_10 : decode cX10_visitMinutes 10 = .ok (.imul, 1) := by decide +kernel
theorem dX10_visitMinutes_11 : decode cX10_visitMinutes 11 = .ok (.iconst 1, 1) := by decide +kernel
theorem dX10_visitMinutes_12 : decode cX10_visitMinutes 12 = .ok (.iadd, 1) := by decide +kernel
theorem dX10_visitMinutes_13 : decode cX10_visitMinutes 13 = .ok (.ireturn, 1) := by decide +kernel
set_option maxRecDepth 20000 in
theorem rX10_visitMinutes {a1 : Int32} {I : MI} {Q : Int32 → MI → Prop} (H : (vp_in a1 12 ∧ Q ((2 * (I 29 a1.toNatClampNeg)) + 1) I)) : Wi mX10_visitMinutes [.ref 44, .int a1] I Q := by
  show WP mX10_visitMinutes 286 Rf0 0 [some (.ref 44), some (.int a1)] [] I (qi Q)
  refine w_iconst (v := 2) dX10_visitMinutes_0 (by decide) ?_
  refine w_aload_n dX10_visitMinutes_1 rfl rfl ?_
  refine w_getR dX10_visitMinutes_2 fl_10_9 okC10 kd_44 (by decide) (by decide) rfl rf_44_0 ?_
  refine w_getR dX10_visitMinutes_5 fl_10_45 okC6 kd_24 (by decide) (by decide) rfl rf_24_11 ?_
  refine w_iload_n dX10_visitMinutes_8 rfl rfl ?_
  refine w_iald dX10_visitMinutes_9 kd_29 (by decide) H.1 ?_
  replace H := H.2
  refine w_imul dX10_visitMinutes_10 ?_
  refine w_iconst (v := 1) dX10_visitMinutes_11 (by decide) ?_
  refine w_iadd dX10_visitMinutes_12 ?_
  exact w_iret dX10_visitMinutes_13 rfl ⟨_, rfl, H⟩
theorem dX0_travel_0 : decode cX0_travel 0 = .ok (.aload_n 0, 1) := by decide +kernel
theorem dX0_travel_1 : decode cX0_travel 1 = .ok (.getfield 12, 3) := by decide +kernel
theorem dX0_travel_4 : decode cX0_travel 4 = .ok (.invokevirtual 34, 3) := by decide +kernel
theorem dX0_travel_7 : decode cX0_travel 7 = .ok (.aload_n 0, 1) := by decide +kernel
theorem dX0_travel_8 : decode cX0_travel 8 = .ok (.iconst 0, 1) := by decide +kernel
theorem dX0_travel_9 : decode cX0_travel 9 = .ok (.putfield 37, 3) := by decide +kernel
theorem dX0_travel_12 : decode cX0_travel 12 = .ok (.aload_n 0, 1) := by decide +kernel
theorem dX0_travel_13 : decode cX0_travel 13 = .ok (.aload_n 0, 1) := by decide +kernel
theorem dX0_travel_14 : decode cX0_travel 14 = .ok (.getfield 18, 3) := by decide +kernel
theorem dX0_travel_17 : decode cX0_travel 17 = .ok (.getfield 41, 3) := by decide +kernel
theorem dX0_travel_20 : decode cX0_travel 20 = .ok (.putfield 46, 3) := by decide +kernel
theorem dX0_travel_23 : decode cX0_travel 23 = .ok (.aload_n 0, 1) := by decide +kernel
theorem dX0_travel_24 : decode cX0_travel 24 = .ok (.aload_n 0, 1) := by decide +kernel
theorem dX0_travel_25 : decode cX0_travel 25 = .ok (.getfield 26, 3) := by decide +kernel
theorem dX0_travel_28 : decode cX0_travel 28 = .ok (.invokevirtual 49, 3) := by decide +kernel
theorem dX0_travel_31 : decode cX0_travel 31 = .ok (.putfield 55, 3) := by decide +kernel
theorem dX0_travel_34 : decode cX0_travel 34 = .ok (.aload_n 0, 1) := by decide +kernel
theorem dX0_travel_35 : decode cX0_travel 35 = .ok (.aload_n 0, 1) := by decide +kernel
theorem dX0_travel_36 : decode cX0_travel 36 = .ok (.getfield 55, 3) := by decide +kernel
theorem dX0_travel_39 : decode cX0_travel 39 = .ok (.aload_n 0, 1) := by decide +kernel
theorem dX0_travel_40 : decode cX0_travel 40 = .ok (.getfield 18, 3) := by decide +kernel
theorem dX0_travel_43 : decode cX0_travel 43 = .ok (.getfield 58, 3) := by decide +kernel
theorem dX0_travel_46 : decode cX0_travel 46 = .ok (.invokestatic 61, 3) := by decide +kernel
theorem dX0_travel_49 : decode cX0_travel 49 = .ok (.putfield 67, 3) := by decide +kernel
theorem dX0_travel_52 : decode cX0_travel 52 = .ok (.aload_n 0, 1) := by decide +kernel
theorem dX0_travel_53 : decode cX0_travel 53 = .ok (.iconst 0, 1) := by decide +kernel
theorem dX0_travel_54 : decode cX0_travel 54 = .ok (.putfield 70, 3) := by decide +kernel
theorem dX0_travel_57 : decode cX0_travel 57 = .ok (.aload_n 0, 1) := by decide +kernel
theorem dX0_travel_58 : decode cX0_travel 58 = .ok (.iconst 0, 1) := by decide +kernel
theorem dX0_travel_59 : decode cX0_travel 59 = .ok (.putfield 73, 3) := by decide +kernel
theorem dX0_travel_62 : decode cX0_travel 62 = .ok (.iconst 0, 1) := by decide +kernel
theorem dX0_travel_63 : decode cX0_travel 63 = .ok (.istore_n 2, 1) := by decide +kernel
theorem dX0_travel_64 : decode cX0_travel 64 = .ok (.iload_n 2, 1) := by decide +kernel
theorem dX0_travel_65 : decode cX0_travel 65 = .ok (.aload_n 1, 1) := by decide +kernel
theorem dX0_travel_66 : decode cX0_travel 66 = .ok (.getfield 77, 3) := by decide +kernel
theorem dX0_travel_69 : decode cX0_travel 69 = .ok (.if_icmp .ge 56, 3) := by decide +kernel
theorem dX0_travel_72 : decode cX0_travel 72 = .ok (.aload_n 0, 1) := by decide +kernel
theorem dX0_travel_73 : decode cX0_travel 73 = .ok (.getfield 73, 3) := by decide +kernel
theorem dX0_travel_76 : decode cX0_travel 76 = .ok (.ifCond .ne 49, 3) := by decide +kernel
theorem dX0_travel_79 : decode cX0_travel 79 = .ok (.aload_n 1, 1) := by decide +kernel
theorem dX0_travel_80 : decode cX0_travel 80 = .ok (.getfield 82, 3) := by decide +kernel
theorem dX0_travel_83 : decode cX0_travel 83 = .ok (.iload_n 2, 1) := by decide +kernel
theorem dX0_travel_84 : decode cX0_travel 84 = .ok (.iaload, 1) := by decide +kernel
theorem dX0_travel_85 : decode cX0_travel 85 = .ok (.istore_n 3, 1) := by decide +kernel
theorem dX0_travel_86 : decode cX0_travel 86 = .ok (.aload_n 0, 1) := by decide +kernel
theorem dX0_travel_87 : decode cX0_travel 87 = .ok (.iload_n 3, 1) := by decide +kernel
theorem dX0_travel_88 : decode cX0_travel 88 = .ok (.invokevirtual 86, 3) := by decide +kernel
theorem dX0_travel_91 : decode cX0_travel 91 = .ok (.ifCond .eq 11, 3) := by decide +kernel
theorem dX0_travel_94 : decode cX0_travel 94 = .ok (.aload_n 0, 1) := by decide +kernel
theorem dX0_travel_95 : decode cX0_travel 95 = .ok (.iload_n 3, 1) := by decide +kernel
theorem dX0_travel_96 : decode cX0_travel 96 = .ok (.invokevirtual 90, 3) := by decide +kernel
theorem dX0_travel_99 : decode cX0_travel 99 = .ok (.goto 20, 3) := by decide +kernel
theorem dX0_travel_102 : decode cX0_travel 102 = .ok (.aload_n 0, 1) := by decide +kernel
theorem dX0_travel_103 : decode cX0_travel 103 = .ok (.dup, 1) := by decide +kernel
theorem dX0_travel_104 : decode cX0_travel 104 = .ok (.getfield 55, 3) := by decide +kernel
theorem dX0_travel_107 : decode cX0_travel 107 = .ok (.aload_n 0, 1) := by decide +kernel
theorem dX0_travel_108 : decode cX0_travel 108 = .ok (.getfield 26, 3) := by decide +kernel
theorem dX0_travel_111 : decode cX0_travel 111 = .ok (.iload_n 3, 1) := by decide +kernel
theorem dX0_travel_112 : decode cX0_travel 112 = .ok (.invokevirtual 94, 3) := by decide +kernel
theorem dX0_travel_115 : decode cX0_travel 115 = .ok (.isub, 1) := by decide +kernel
theorem dX0_travel_116 : decode cX0_travel 116 = .ok (.putfield 55, 3) := by decide +kernel
theorem dX0_travel_119 : decode cX0_travel 119 = .ok (.iinc 2 1, 3) := by decide +kernel
theorem dX0_travel_122 : decode cX0_travel 122 = .ok (.goto (-58), 3) := by decide +kernel
theorem dX0_travel_125 : decode cX0_travel 125 = .ok (.aload_n 0, 1) := by decide +kernel
theorem dX0_travel_126 : decode cX0_travel 126 = .ok (.getfield 73, 3) := by decide +kernel
theorem dX0_travel_129 : decode cX0_travel 129 = .ok (.ifCond .ne 9, 3) := by decide +kernel
theorem dX0_travel_132 : decode cX0_travel 132 = .ok (.aload_n 0, 1) := by decide +kernel
theorem dX0_travel_133 : decode cX0_travel 133 = .ok (.iconst 0, 1) := by decide +kernel
theorem dX0_travel_134 : decode cX0_travel 134 = .ok (.invokevirtual 86, 3) := by decide +kernel
theorem dX0_travel_137 : decode cX0_travel 137 = .ok (.pop, 1) := by decide +kernel
theorem dX0_travel_138 : decode cX0_travel 138 = .ok (.aload_n 0, 1) := by decide +kernel
theorem dX0_travel_139 : decode cX0_travel 139 = .ok (.getfield 12, 3) := by decide +kernel
theorem dX0_travel_142 : decode cX0_travel 142 = .ok (.aload_n 0, 1) := by decide +kernel
theorem dX0_travel_143 : decode cX0_travel 143 = .ok (.getfield 37, 3) := by decide +kernel
theorem dX0_travel_146 : decode cX0_travel 146 = .ok (.ifCond .ne 10, 3) := by decide +kernel
theorem dX0_travel_149 : decode cX0_travel 149 = .ok (.aload_n 0, 1) := by decide +kernel
theorem dX0_travel_150 : decode cX0_travel 150 = .ok (.getfield 46, 3) := by decide +kernel
theorem dX0_travel_153 : decode cX0_travel 153 = .ok (.goto 5, 3) := by decide +kernel
theorem dX0_travel_156 : decode cX0_travel 156 = .ok (.bipush (-2), 2) := by decide +kernel
theorem dX0_travel_158 : decode cX0_travel 158 = .ok (.putfield 98, 3) := by decide +kernel
theorem dX0_travel_161 : decode cX0_travel 161 = .ok (.return_, 1) := by decide +kernel
abbrev LX0_travel_64 (l2 : Int32) (I : MI) (Q : MI → Prop) : Prop := WP mX0_travel 286 Rf0 64 [some (.ref 56), some (.ref 48), some (.int l2), none] [] I (qv Q)
abbrev LX0_travel_119 (l2 l3 : Int32) (I : MI) (Q : MI → Prop) : Prop := WP mX0_travel 286 Rf0 119 [some (.ref 56), some (.ref 48), some (.int l2), some (.int l3)] [] I (qv Q)
abbrev LX0_travel_125 (l2 : Int32) (I : MI) (Q : MI → Prop) : Prop := WP mX0_travel 286 Rf0 125 [some (.ref 56), some (.ref 48), some (.int l2), none] [] I (qv Q)
abbrev LX0_travel_138 (l2 : Int32) (I : MI) (Q : MI → Prop) : Prop := WP mX0_travel 286 Rf0 138 [some (.ref 56), some (.ref 48), some (.int l2), none] [] I (qv Q)
abbrev LX0_travel_158 (l2 t1 : Int32) (I : MI) (Q : MI → Prop) : Prop := WP mX0_travel 286 Rf0 158 [some (.ref 56), some (.ref 48), some (.int l2), none] [.int t1, .ref 57] I (qv Q)
set_option maxRecDepth 20000 in
theorem rX0_travel_64 {l2 : Int32} {I : MI} {Q : MI → Prop} (H : (((I 48 1) ≤ l2 → (LX0_travel_125 l2 I Q)) ∧ (¬ (I 48 1) ≤ l2 → ((¬ (I 56 10) = 0 → (LX0_travel_125 l2 I Q)) ∧ ((I 56 10) = 0 → (vp_in l2 10 ∧ Wi mX0_driveTo [.ref 56, .int (I 49 l2.toNatClampNeg)] I (fun r2 I1 => ((r2 = 0 → (Wi mX10_demandAtNode [.ref 44, .int (I 49 l2.toNatClampNeg)] I1 (fun r4 I3 => (∀ I5 : MI, I5 = up2 I3 56 9 ((I1 56 9) - r4) → LX0_travel_119 l2 (I 49 l2.toNatClampNeg) I5 Q)))) ∧ (¬ r2 = 0 → (Wv mX0_serveStop [.ref 56, .int (I 49 l2.toNatClampNeg)] I1 (fun I3 => (LX0_travel_119 l2 (I 49 l2.toNatClampNeg) I3 Q)))))))))))) : LX0_travel_64 l2 I Q := by
  show WP mX0_travel 286 Rf0 64 [some (.ref 56), some (.ref 48), some (.int l2), none] [] I (qv Q)
  refine w_iload_n dX0_travel_64 rfl rfl ?_
  refine w_aload_n dX0_travel_65 rfl rfl ?_
  refine w_getI dX0_travel_66 fl_0_77 okC7 kd_48 (by decide) (by decide) rfl ?_
  refine w_icmp_ge (t := 125) dX0_travel_69 (by decide) (fun h => ?_) (fun h => ?_)
  · replace H := H.1 h
    skip
    exact H
  · replace H := H.2 h
    refine w_aload_n dX0_travel_72 rfl rfl ?_
    refine w_getI dX0_travel_73 fl_0_73 okC0 kd_56 (by decide) (by decide) rfl ?_
    refine w_if_ne (t := 125) dX0_travel_76 (by decide) (fun h => ?_) (fun h => ?_)
    · replace H := H.1 h
      skip
      exact H
    · replace H := H.2 h
      refine w_aload_n dX0_travel_79 rfl rfl ?_
      refine w_getR dX0_travel_80 fl_0_82 okC7 kd_48 (by decide) (by decide) rfl rf_48_0 ?_
      refine w_iload_n dX0_travel_83 rfl rfl ?_
      refine w_iald dX0_travel_84 kd_49 (by decide) H.1 ?_
      replace H := H.2
      refine w_istore_n (ls' := [some (.ref 56), some (.ref 48), some (.int l2), some (.int (I 49 l2.toNatClampNeg))]) dX0_travel_85 rfl (by decide) rfl rfl ?_
      refine w_aload_n dX0_travel_86 rfl rfl ?_
      refine w_iload_n dX0_travel_87 rfl rfl ?_
      refine w_callV (st := []) (As := [.int (I 49 l2.toNatClampNeg)]) dX0_travel_88 ml_0_86 okX0_driveTo kd_56 (by decide) rfl rfl rfl (Nat.le_of_ble_eq_true rfl) (by decide) (Nat.le_of_ble_eq_true rfl) (wc_i H (fun r2 I1 H => ?_))
      refine w_if_eq (t := 102) dX0_travel_91 (by decide) (fun h => ?_) (fun h => ?_)
      · replace H := H.1 h
        refine w_aload_n dX0_travel_102 rfl rfl ?_
        refine w_dup dX0_travel_103 rfl ?_
        refine w_getI dX0_travel_104 fl_0_55 okC0 kd_56 (by decide) (by decide) rfl ?_
        refine w_aload_n dX0_travel_107 rfl rfl ?_
        refine w_getR dX0_travel_108 fl_0_26 okC0 kd_56 (by decide) (by decide) rfl rf_56_2 ?_
        refine w_iload_n dX0_travel_111 rfl rfl ?_
        refine w_callV (st := [.int (I1 56 9), .ref 56]) (As := [.int (I 49 l2.toNatClampNeg)]) dX0_travel_112 ml_0_94 okX10_demandAtNode kd_44 (by decide) rfl rfl rfl (Nat.le_of_ble_eq_true rfl) (by decide) (Nat.le_of_ble_eq_true rfl) (wc_i H (fun r4 I3 H => ?_))
        refine w_isub dX0_travel_115 ?_
        refine w_putI dX0_travel_116 fl_0_55 okC0 kd_56 (by decide) (by decide) rfl rfl rfl (w_up fun I5 hI => ?_)
        replace H := H I5 hI
        skip
        exact H
      · replace H := H.2 h
        refine w_aload_n dX0_travel_94 rfl rfl ?_
        refine w_iload_n dX0_travel_95 rfl rfl ?_
        refine w_callV (st := []) (As := [.int (I 49 l2.toNatClampNeg)]) dX0_travel_96 ml_0_90 okX0_serveStop kd_56 (by decide) rfl rfl rfl (Nat.le_of_ble_eq_true rfl) (by decide) (Nat.le_of_ble_eq_true rfl) (wc_v H (fun I3 H => ?_))
        refine w_goto (t := 119) dX0_travel_99 (by decide) ?_
        skip
        exact H
set_option maxRecDepth 20000 in
theorem rX0_travel_119 {l2 l3 : Int32} {I : MI} {Q : MI → Prop} (H : (LX0_travel_64 (l2 + 1) I Q)) : LX0_travel_119 l2 l3 I Q := by
  show WP mX0_travel 286 Rf0 119 [some (.ref 56), some (.ref 48), some (.int l2), some (.int l3)] [] I (qv Q)
  refine w_iinc (v := l2 + 1) (ls' := [some (.ref 56), some (.ref 48), some (.int (l2 + 1)), some (.int l3)]) dX0_travel_119 rfl rfl (by decide) rfl rfl ?_
  refine w_goto (t := 64) dX0_travel_122 (by decide) ?_
  refine w_less (ls' := [some (.ref 56), some (.ref 48), some (.int (l2 + 1)), none]) (by simp [lsub]) ?_
  exact H
set_option maxRecDepth 20000 in
theorem rX0_travel_125 {l2 : Int32} {I : MI} {Q : MI → Prop} (H : ((¬ (I 56 10) = 0 → (LX0_travel_138 l2 I Q)) ∧ ((I 56 10) = 0 → (Wi mX0_driveTo [.ref 56, .int 0] I (fun r2 I1 => (LX0_travel_138 l2 I1 Q)))))) : LX0_travel_125 l2 I Q := by
  show WP mX0_travel 286 Rf0 125 [some (.ref 56), some (.ref 48), some (.int l2), none] [] I (qv Q)
  refine w_aload_n dX0_travel_125 rfl rfl ?_
  refine w_getI dX0_travel_126 fl_0_73 okC0 kd_56 (by decide) (by decide) rfl ?_
  refine w_if_ne (t := 138) dX0_travel_129 (by decide) (fun h => ?_) (fun h => ?_)
  · replace H := H.1 h
    skip
    exact H
  · replace H := H.2 h
    refine w_aload_n dX0_travel_132 rfl rfl ?_
    refine w_iconst (v := 0) dX0_travel_133 (by decide) ?_
    refine w_callV (st := []) (As := [.int 0]) dX0_travel_134 ml_0_86 okX0_driveTo kd_56 (by decide) rfl rfl rfl (Nat.le_of_ble_eq_true rfl) (by decide) (Nat.le_of_ble_eq_true rfl) (wc_i H (fun r2 I1 H => ?_))
    refine w_pop dX0_travel_137 rfl ?_
    skip
    exact H
set_option maxRecDepth 20000 in
theorem rX0_travel_138 {l2 : Int32} {I : MI} {Q : MI → Prop} (H : ((¬ (I 56 5) = 0 → (LX0_travel_158 l2 (-2) I Q)) ∧ ((I 56 5) = 0 → (LX0_travel_158 l2 (I 56 6) I Q)))) : LX0_travel_138 l2 I Q := by
  show WP mX0_travel 286 Rf0 138 [some (.ref 56), some (.ref 48), some (.int l2), none] [] I (qv Q)
  refine w_aload_n dX0_travel_138 rfl rfl ?_
  refine w_getR dX0_travel_139 fl_0_12 okC0 kd_56 (by decide) (by decide) rfl rf_56_4 ?_
  refine w_aload_n dX0_travel_142 rfl rfl ?_
  refine w_getI dX0_travel_143 fl_0_37 okC0 kd_56 (by decide) (by decide) rfl ?_
  refine w_if_ne (t := 156) dX0_travel_146 (by decide) (fun h => ?_) (fun h => ?_)
  · replace H := H.1 h
    refine w_bipush (v := (-2)) dX0_travel_156 (by decide) ?_
    skip
    exact H
  · replace H := H.2 h
    refine w_aload_n dX0_travel_149 rfl rfl ?_
    refine w_getI dX0_travel_150 fl_0_46 okC0 kd_56 (by decide) (by decide) rfl ?_
    refine w_goto (t := 158) dX0_travel_153 (by decide) ?_
    skip
    exact H
set_option maxRecDepth 20000 in
theorem rX0_travel_158 {l2 t1 : Int32} {I : MI} {Q : MI → Prop} (H : (∀ I1 : MI, I1 = up2 I 57 0 t1 → Q I1)) : LX0_travel_158 l2 t1 I Q := by
  show WP mX0_travel 286 Rf0 158 [some (.ref 56), some (.ref 48), some (.int l2), none] [.int t1, .ref 57] I (qv Q)
  refine w_putI dX0_travel_158 fl_0_98 okC3 kd_57 (by decide) (by decide) rfl rfl rfl (w_up fun I1 hI => ?_)
  replace H := H I1 hI
  exact w_vret dX0_travel_161 rfl ⟨rfl, H⟩
set_option maxRecDepth 20000 in
theorem rX0_travel {I : MI} {Q : MI → Prop} (H : (Wv mX3_clear [.ref 57] I (fun I1 => (∀ I2 : MI, I2 = up2 I1 56 5 0 → ∀ I3 : MI, I3 = up2 I2 56 6 (I2 24 4) → Wi mX10_sumOfDemands [.ref 44] I3 (fun r5 I4 => (∀ I6 : MI, I6 = up2 I4 56 9 r5 → ∀ x7 : Int32, x7 = (if (I6 24 3) < (I6 56 9) then (I6 24 3) else (I6 56 9)) → ∀ I8 : MI, I8 = up2 I6 56 7 x7 → ∀ I9 : MI, I9 = up2 I8 56 8 0 → ∀ I10 : MI, I10 = up2 I9 56 10 0 → LX0_travel_64 0 I10 Q)))))) : Wv mX0_travel [.ref 56, .ref 48] I Q := by
  show WP mX0_travel 286 Rf0 0 [some (.ref 56), some (.ref 48), none, none] [] I (qv Q)
  refine w_aload_n dX0_travel_0 rfl rfl ?_
  refine w_getR dX0_travel_1 fl_0_12 okC0 kd_56 (by decide) (by decide) rfl rf_56_4 ?_
  refine w_callV (st := []) (As := []) dX0_travel_4 ml_0_34 okX3_clear kd_57 (by decide) rfl rfl rfl (Nat.le_of_ble_eq_true rfl) (by decide) (Nat.le_of_ble_eq_true rfl) (wc_v H (fun I1 H => ?_))
  refine w_aload_n dX0_travel_7 rfl rfl ?_
  refine w_iconst (v := 0) dX0_travel_8 (by decide) ?_
  refine w_putI dX0_travel_9 fl_0_37 okC0 kd_56 (by decide) (by decide) rfl rfl rfl (w_up fun I2 hI => ?_)
  replace H := H I2 hI
  refine w_aload_n dX0_travel_12 rfl rfl ?_
  refine w_aload_n dX0_travel_13 rfl rfl ?_
  refine w_getR dX0_travel_14 fl_0_18 okC0 kd_56 (by decide) (by decide) rfl rf_56_0 ?_
  refine w_getI dX0_travel_17 fl_0_41 okC6 kd_24 (by decide) (by decide) rfl ?_
  refine w_putI dX0_travel_20 fl_0_46 okC0 kd_56 (by decide) (by decide) rfl rfl rfl (w_up fun I3 hI => ?_)
  replace H := H I3 hI
  refine w_aload_n dX0_travel_23 rfl rfl ?_
  refine w_aload_n dX0_travel_24 rfl rfl ?_
  refine w_getR dX0_travel_25 fl_0_26 okC0 kd_56 (by decide) (by decide) rfl rf_56_2 ?_
  refine w_callV (st := [.ref 56]) (As := []) dX0_travel_28 ml_0_49 okX10_sumOfDemands kd_44 (by decide) rfl rfl rfl (Nat.le_of_ble_eq_true rfl) (by decide) (Nat.le_of_ble_eq_true rfl) (wc_i H (fun r5 I4 H => ?_))
  refine w_putI dX0_travel_31 fl_0_55 okC0 kd_56 (by decide) (by decide) rfl rfl rfl (w_up fun I6 hI => ?_)
  replace H := H I6 hI
  refine w_aload_n dX0_travel_34 rfl rfl ?_
  refine w_aload_n dX0_travel_35 rfl rfl ?_
  refine w_getI dX0_travel_36 fl_0_55 okC0 kd_56 (by decide) (by decide) rfl ?_
  refine w_aload_n dX0_travel_39 rfl rfl ?_
  refine w_getR dX0_travel_40 fl_0_18 okC0 kd_56 (by decide) (by decide) rfl rf_56_0 ?_
  refine w_getI dX0_travel_43 fl_0_58 okC6 kd_24 (by decide) (by decide) rfl ?_
  refine w_min dX0_travel_46 ml_0_61 minS maI minC (by decide) (Nat.le_of_ble_eq_true rfl) ?_
  refine w_top fun x7 hx => ?_
  replace H := H x7 hx
  refine w_putI dX0_travel_49 fl_0_67 okC0 kd_56 (by decide) (by decide) rfl rfl rfl (w_up fun I8 hI => ?_)
  replace H := H I8 hI
  refine w_aload_n dX0_travel_52 rfl rfl ?_
  refine w_iconst (v := 0) dX0_travel_53 (by decide) ?_
  refine w_putI dX0_travel_54 fl_0_70 okC0 kd_56 (by decide) (by decide) rfl rfl rfl (w_up fun I9 hI => ?_)
  replace H := H I9 hI
  refine w_aload_n dX0_travel_57 rfl rfl ?_
  refine w_iconst (v := 0) dX0_travel_58 (by decide) ?_
  refine w_putZ dX0_travel_59 fl_0_73 okC0 kd_56 (by decide) (by decide) rfl rfl rfl (by decide) (w_up fun I10 hI => ?_)
  replace H := H I10 hI
  refine w_iconst (v := 0) dX0_travel_62 (by decide) ?_
  refine w_istore_n (ls' := [some (.ref 56), some (.ref 48), some (.int 0), none]) dX0_travel_63 rfl (by decide) rfl rfl ?_
  skip
  exact H
theorem dX1_allow_0 : decode cX1_allow 0 = .ok (.iconst 0, 1) := by decide +kernel
theorem dX1_allow_1 : decode cX1_allow 1 = .ok (.istore_n 3, 1) := by decide +kernel
theorem dX1_allow_2 : decode cX1_allow 2 = .ok (.iload_n 3, 1) := by decide +kernel
theorem dX1_allow_3 : decode cX1_allow 3 = .ok (.aload_n 0, 1) := by decide +kernel
theorem dX1_allow_4 : decode cX1_allow 4 = .ok (.getfield 33, 3) := by decide +kernel
theorem dX1_allow_7 : decode cX1_allow 7 = .ok (.getfield 111, 3) := by decide +kernel
theorem dX1_allow_10 : decode cX1_allow 10 = .ok (.if_icmp .ge 44, 3) := by decide +kernel
theorem dX1_allow_13 : decode cX1_allow 13 = .ok (.iload_n 1, 1) := by decide +kernel
theorem dX1_allow_14 : decode cX1_allow 14 = .ok (.iload_n 3, 1) := by decide +kernel
theorem dX1_allow_15 : decode cX1_allow 15 = .ok (.invokestatic 114, 3) := by decide +kernel
theorem dX1_allow_18 : decode cX1_allow 18 = .ok (.ifCond .eq 30, 3) := by decide +kernel
theorem dX1_allow_21 : decode cX1_allow 21 = .ok (.iload_n 1, 1) := by decide +kernel
theorem dX1_allow_22 : decode cX1_allow 22 = .ok (.iload_n 3, 1) := by decide +kernel
theorem dX1_allow_23 : decode cX1_allow 23 = .ok (.invokestatic 100, 3) := by decide +kernel
theorem dX1_allow_26 : decode cX1_allow 26 = .ok (.istore 4, 2) := by decide +kernel
theorem dX1_allow_28 : decode cX1_allow 28 = .ok (.aload_n 0, 1) := by decide +kernel
theorem dX1_allow_29 : decode cX1_allow 29 = .ok (.getfield 25, 3) := by decide +kernel
theorem dX1_allow_32 : decode cX1_allow 32 = .ok (.iload 4, 2) := by decide +kernel
theorem dX1_allow_34 : decode cX1_allow 34 = .ok (.aload_n 0, 1) := by decide +kernel
theorem dX1_allow_35 : decode cX1_allow 35 = .ok (.getfield 25, 3) := by decide +kernel
theorem dX1_allow_38 : decode cX1_allow 38 = .ok (.iload 4, 2) := by decide +kernel
theorem dX1_allow_40 : decode cX1_allow 40 = .ok (.iaload, 1) := by decide +kernel
theorem dX1_allow_41 : decode cX1_allow 41 = .ok (.aload_n 2, 1) := by decide +kernel
theorem dX1_allow_42 : decode cX1_allow 42 = .ok (.iload_n 3, 1) := by decide +kernel
theorem dX1_allow_43 : decode cX1_allow 43 = .ok (.iaload, 1) := by decide +kernel
theorem dX1_allow_44 : decode cX1_allow 44 = .ok (.invokestatic 140, 3) := by decide +kernel
theorem dX1_allow_47 : decode cX1_allow 47 = .ok (.iastore, 1) := by decide +kernel
theorem dX1_allow_48 : decode cX1_allow 48 = .ok (.iinc 3 1, 3) := by decide +kernel
theorem dX1_allow_51 : decode cX1_allow 51 = .ok (.goto (-49), 3) := by decide +kernel
theorem dX1_allow_54 : decode cX1_allow 54 = .ok (.return_, 1) := by decide +kernel
abbrev LX1_allow_2 (l1 l3 : Int32) (I : MI) (Q : MI → Prop) : Prop := WP mX1_allow 286 Rf0 2 [some (.ref 50), some (.int l1), some (.ref 47), some (.int l3), none] [] I (qv Q)
abbrev LX1_allow_48 (l1 l3 : Int32) (I : MI) (Q : MI → Prop) : Prop := WP mX1_allow 286 Rf0 48 [some (.ref 50), some (.int l1), some (.ref 47), some (.int l3), none] [] I (qv Q)
set_option maxRecDepth 20000 in
theorem rX1_allow_2 {l1 l3 : Int32} {I : MI} {Q : MI → Prop} (H : (((I 24 0) ≤ l3 → (Q I)) ∧ (¬ (I 24 0) ≤ l3 → (Wi mX1_isLast [.int l1, .int l3] I (fun r2 I1 => ((r2 = 0 → (LX1_allow_48 l1 l3 I1 Q)) ∧ (¬ r2 = 0 → (Wi mX1_place [.int l1, .int l3] I1 (fun r4 I3 => (vp_in r4 5120 ∧ vp_in l3 10 ∧ ∀ x5 : Int32, x5 = (if (I3 55 r4.toNatClampNeg) < (I3 47 l3.toNatClampNeg) then (I3 47 l3.toNatClampNeg) else (I3 55 r4.toNatClampNeg)) → vp_in r4 5120 ∧ ∀ I6 : MI, I6 = up2 I3 55 r4.toNatClampNeg x5 → LX1_allow_48 l1 l3 I6 Q)))))))))) : LX1_allow_2 l1 l3 I Q := by
  show WP mX1_allow 286 Rf0 2 [some (.ref 50), some (.int l1), some (.ref 47), some (.int l3), none] [] I (qv Q)
  refine w_iload_n dX1_allow_2 rfl rfl ?_
  refine w_aload_n dX1_allow_3 rfl rfl ?_
  refine w_getR dX1_allow_4 fl_1_33 okC1 kd_50 (by decide) (by decide) rfl rf_50_0 ?_
  refine w_getI dX1_allow_7 fl_1_111 okC6 kd_24 (by decide) (by decide) rfl ?_
  refine w_icmp_ge (t := 54) dX1_allow_10 (by decide) (fun h => ?_) (fun h => ?_)
  · replace H := H.1 h
    exact w_vret dX1_allow_54 rfl ⟨rfl, H⟩
  · replace H := H.2 h
    refine w_iload_n dX1_allow_13 rfl rfl ?_
    refine w_iload_n dX1_allow_14 rfl rfl ?_
    refine w_callS (st := []) (As := [.int l1, .int l3]) dX1_allow_15 ml_1_114 okX1_isLast rfl (Nat.le_of_ble_eq_true rfl) (by decide) (Nat.le_of_ble_eq_true rfl) (wc_i H (fun r2 I1 H => ?_))
    refine w_if_eq (t := 48) dX1_allow_18 (by decide) (fun h => ?_) (fun h => ?_)
    · replace H := H.1 h
      skip
      exact H
    · replace H := H.2 h
      refine w_iload_n dX1_allow_21 rfl rfl ?_
      refine w_iload_n dX1_allow_22 rfl rfl ?_
      refine w_callS (st := []) (As := [.int l1, .int l3]) dX1_allow_23 ml_1_100 okX1_place rfl (Nat.le_of_ble_eq_true rfl) (by decide) (Nat.le_of_ble_eq_true rfl) (wc_i H (fun r4 I3 H => ?_))
      refine w_istore (ls' := [some (.ref 50), some (.int l1), some (.ref 47), some (.int l3), some (.int r4)]) dX1_allow_26 (by decide) rfl rfl ?_
      refine w_aload_n dX1_allow_28 rfl rfl ?_
      refine w_getR dX1_allow_29 fl_1_25 okC1 kd_50 (by decide) (by decide) rfl rf_50_6 ?_
      refine w_iload dX1_allow_32 rfl ?_
      refine w_aload_n dX1_allow_34 rfl rfl ?_
      refine w_getR dX1_allow_35 fl_1_25 okC1 kd_50 (by decide) (by decide) rfl rf_50_6 ?_
      refine w_iload dX1_allow_38 rfl ?_
      refine w_iald dX1_allow_40 kd_55 (by decide) H.1 ?_
      replace H := H.2
      refine w_aload_n dX1_allow_41 rfl rfl ?_
      refine w_iload_n dX1_allow_42 rfl rfl ?_
      refine w_iald dX1_allow_43 kd_47 (by decide) H.1 ?_
      replace H := H.2
      refine w_max dX1_allow_44 ml_1_140 maxS maI maxC (by decide) (Nat.le_of_ble_eq_true rfl) ?_
      refine w_top fun x5 hx => ?_
      replace H := H x5 hx
      refine w_iast dX1_allow_47 kd_55 (by decide) H.1 (w_up fun I6 hI => ?_)
      replace H := H.2 I6 hI
      refine w_less (ls' := [some (.ref 50), some (.int l1), some (.ref 47), some (.int l3), none]) (by simp [lsub]) ?_
      exact H
set_option maxRecDepth 20000 in
theorem rX1_allow_48 {l1 l3 : Int32} {I : MI} {Q : MI → Prop} (H : (LX1_allow_2 l1 (l3 + 1) I Q)) : LX1_allow_48 l1 l3 I Q := by
  show WP mX1_allow 286 Rf0 48 [some (.ref 50), some (.int l1), some (.ref 47), some (.int l3), none] [] I (qv Q)
  refine w_iinc (v := l3 + 1) (ls' := [some (.ref 50), some (.int l1), some (.ref 47), some (.int (l3 + 1)), none]) dX1_allow_48 rfl rfl (by decide) rfl rfl ?_
  refine w_goto (t := 2) dX1_allow_51 (by decide) ?_
  skip
  exact H
set_option maxRecDepth 20000 in
theorem rX1_allow {a1 : Int32} {I : MI} {Q : MI → Prop} (H : (LX1_allow_2 a1 0 I Q)) : Wv mX1_allow [.ref 50, .int a1, .ref 47] I Q := by
  show WP mX1_allow 286 Rf0 0 [some (.ref 50), some (.int a1), some (.ref 47), none, none] [] I (qv Q)
  refine w_iconst (v := 0) dX1_allow_0 (by decide) ?_
  refine w_istore_n (ls' := [some (.ref 50), some (.int a1), some (.ref 47), some (.int 0), none]) dX1_allow_1 rfl (by decide) rfl rfl ?_
  skip
  exact H
theorem dX1_firstInTime_0 : decode cX1_firstInTime 0 = .ok (.iconst 1, 1) := by decide +kernel
theorem dX1_firstInTime_1 : decode cX1_firstInTime 1 = .ok (.istore_n 3, 1) := by decide +kernel
theorem dX1_firstInTime_2 : decode cX1_firstInTime 2 = .ok (.iload_n 3, 1) := by decide +kernel
theorem dX1_firstInTime_3 : decode cX1_firstInTime 3 = .ok (.aload_n 0, 1) := by decide +kernel
theorem dX1_firstInTime_4 : decode cX1_firstInTime 4 = .ok (.getfield 33, 3) := by decide +kernel
theorem dX1_firstInTime_7 : decode cX1_firstInTime 7 = .ok (.getfield 111, 3) := by decide +kernel
theorem dX1_firstInTime_10 : decode cX1_firstInTime 10 = .ok (.if_icmp .ge 73, 3) := by decide +kernel
theorem dX1_firstInTime_13 : decode cX1_firstInTime 13 = .ok (.aload_n 0, 1) := by decide +kernel
theorem dX1_firstInTime_14 : decode cX1_firstInTime 14 = .ok (.getfield 66, 3) := by decide +kernel
theorem dX1_firstInTime_17 : decode cX1_firstInTime 17 = .ok (.iload_n 1, 1) := by decide +kernel
theorem dX1_firstInTime_18 : decode cX1_firstInTime 18 = .ok (.iconst (-1), 1) := by decide +kernel
theorem dX1_firstInTime_19 : decode cX1_firstInTime 19 = .ok (.ixor, 1) := by decide +kernel
theorem dX1_firstInTime_20 : decode cX1_firstInTime 20 = .ok (.iand, 1) := by decide +kernel
theorem dX1_firstInTime_21 : decode cX1_firstInTime 21 = .ok (.iconst 1, 1) := by decide +kernel
theorem dX1_firstInTime_22 : decode cX1_firstInTime 22 = .ok (.iload_n 3, 1) := by decide +kernel
theorem dX1_firstInTime_23 : decode cX1_firstInTime 23 = .ok (.ishl, 1) := by decide +kernel
theorem dX1_firstInTime_24 : decode cX1_firstInTime 24 = .ok (.iand, 1) := by decide +kernel
theorem dX1_firstInTime_25 : decode cX1_firstInTime 25 = .ok (.ifCond .eq 15, 3) := by decide +kernel
theorem dX1_firstInTime_28 : decode cX1_firstInTime 28 = .ok (.aload_n 2, 1) := by decide +kernel
theorem dX1_firstInTime_29 : decode cX1_firstInTime 29 = .ok (.iload_n 3, 1) := by decide +kernel
theorem dX1_firstInTime_30 : decode cX1_firstInTime 30 = .ok (.iaload, 1) := by decide +kernel
theorem dX1_firstInTime_31 : decode cX1_firstInTime 31 = .ok (.ldc 28, 2) := by decide +kernel
theorem dX1_firstInTime_33 : decode cX1_firstInTime 33 = .ok (.if_icmp .eq 7, 3) := by decide +kernel
theorem dX1_firstInTime_36 : decode cX1_firstInTime 36 = .ok (.iconst 1, 1) := by decide +kernel
theorem dX1_firstInTime_37 : decode cX1_firstInTime 37 = .ok (.goto 4, 3) := by decide +kernel
theorem dX1_firstInTime_40 : decode cX1_firstInTime 40 = .ok (.iconst 0, 1) := by decide +kernel
theorem dX1_firstInTime_41 : decode cX1_firstInTime 41 = .ok (.istore 4, 2) := by decide +kernel
theorem dX1_firstInTime_43 : decode cX1_firstInTime 43 = .ok (.iload 4, 2) := by decide +kernel
theorem dX1_firstInTime_45 : decode cX1_firstInTime 45 = .ok (.ifCond .eq 32, 3) := by decide +kernel
theorem dX1_firstInTime_48 : decode cX1_firstInTime 48 = .ok (.aload_n 2, 1) := by decide +kernel
theorem dX1_firstInTime_49 : decode cX1_firstInTime 49 = .ok (.iload_n 3, 1) := by decide +kernel
theorem dX1_firstInTime_50 : decode cX1_firstInTime 50 = .ok (.iaload, 1) := by decide +kernel
theorem dX1_firstInTime_51 : decode cX1_firstInTime 51 = .ok (.aload_n 0, 1) := by decide +kernel
theorem dX1_firstInTime_52 : decode cX1_firstInTime 52 = .ok (.getfield 18, 3) := by decide +kernel
theorem dX1_firstInTime_55 : decode cX1_firstInTime 55 = .ok (.iload_n 3, 1) := by decide +kernel
theorem dX1_firstInTime_56 : decode cX1_firstInTime 56 = .ok (.iaload, 1) := by decide +kernel
theorem dX1_firstInTime_57 : decode cX1_firstInTime 57 = .ok (.iadd, 1) := by decide +kernel
theorem dX1_firstInTime_58 : decode cX1_firstInTime 58 = .ok (.aload_n 0, 1) := by decide +kernel
theorem dX1_firstInTime_59 : decode cX1_firstInTime 59 = .ok (.getfield 25, 3) := by decide +kernel
theorem dX1_firstInTime_62 : decode cX1_firstInTime 62 = .ok (.iload_n 1, 1) := by decide +kernel
theorem dX1_firstInTime_63 : decode cX1_firstInTime 63 = .ok (.iconst 1, 1) := by decide +kernel
theorem dX1_firstInTime_64 : decode cX1_firstInTime 64 = .ok (.iload_n 3, 1) := by decide +kernel
theorem dX1_firstInTime_65 : decode cX1_firstInTime 65 = .ok (.ishl, 1) := by decide +kernel
theorem dX1_firstInTime_66 : decode cX1_firstInTime 66 = .ok (.ior, 1) := by decide +kernel
theorem dX1_firstInTime_67 : decode cX1_firstInTime 67 = .ok (.iload_n 3, 1) := by decide +kernel
theorem dX1_firstInTime_68 : decode cX1_firstInTime 68 = .ok (.invokestatic 100, 3) := by decide +kernel
theorem dX1_firstInTime_71 : decode cX1_firstInTime 71 = .ok (.iaload, 1) := by decide +kernel
theorem dX1_firstInTime_72 : decode cX1_firstInTime 72 = .ok (.if_icmp .gt 5, 3) := by decide +kernel
theorem dX1_firstInTime_75 : decode cX1_firstInTime 75 = .ok (.iload_n 3, 1) := by decide +kernel
theorem dX1_firstInTime_76 : decode cX1_firstInTime 76 = .ok (.ireturn, 1) := by decide +kernel
theorem dX1_firstInTime_77 : decode cX1_firstInTime 77 = .ok (.iinc 3 1, 3) := by decide +kernel
theorem dX1_firstInTime_80 : decode cX1_firstInTime 80 = .ok (.goto (-78), 3) := by decide +kernel
theorem dX1_firstInTime_83 : decode cX1_firstInTime 83 = .ok (.iconst 0, 1) := by decide +kernel
theorem dX1_firstInTime_84 : decode cX1_firstInTime 84 = .ok (.ireturn, 1) := by decide +kernel
abbrev LX1_firstInTime_2 (l1 l3 : Int32) (I : MI) (Q : Int32 → MI → Prop) : Prop := WP mX1_firstInTime 286 Rf0 2 [some (.ref 50), some (.int l1), some (.ref 46), some (.int l3), none] [] I (qi Q)
abbrev LX1_firstInTime_40 (l1 l3 : Int32) (I : MI) (Q : Int32 → MI → Prop) : Prop := WP mX1_firstInTime 286 Rf0 40 [some (.ref 50), some (.int l1), some (.ref 46), some (.int l3), none] [] I (qi Q)
abbrev LX1_firstInTime_41 (l1 l3 t0 : Int32) (I : MI) (Q : Int32 → MI → Prop) : Prop := WP mX1_firstInTime 286 Rf0 41 [some (.ref 50), some (.int l1), some (.ref 46), some (.int l3), none] [.int t0] I (qi Q)
abbrev LX1_firstInTime_77 (l1 l3 l4 : Int32) (I : MI) (Q : Int32 → MI → Prop) : Prop := WP mX1_firstInTime 286 Rf0 77 [some (.ref 50), some (.int l1), some (.ref 46), some (.int l3), some (.int l4)] [] I (qi Q)
set_option maxRecDepth 20000 in
theorem rX1_firstInTime_2 {l1 l3 : Int32} {I : MI} {Q : Int32 → MI → Prop} (H : (((I 24 0) ≤ l3 → (Q 0 I)) ∧ (¬ (I 24 0) ≤ l3 → (((((I 50 7) &&& (l1 ^^^ ((-1) : Int32))) &&& ((1 : Int32) <<< (l3 &&& 31))) = 0 → (LX1_firstInTime_40 l1 l3 I Q)) ∧ (¬ (((I 50 7) &&& (l1 ^^^ ((-1) : Int32))) &&& ((1 : Int32) <<< (l3 &&& 31))) = 0 → (vp_in l3 10 ∧ ((I 46 l3.toNatClampNeg) = 2147483647 → (LX1_firstInTime_40 l1 l3 I Q)) ∧ (¬ (I 46 l3.toNatClampNeg) = 2147483647 → (LX1_firstInTime_41 l1 l3 1 I Q)))))))) : LX1_firstInTime_2 l1 l3 I Q := by
  show WP mX1_firstInTime 286 Rf0 2 [some (.ref 50), some (.int l1), some (.ref 46), some (.int l3), none] [] I (qi Q)
  refine w_iload_n dX1_firstInTime_2 rfl rfl ?_
  refine w_aload_n dX1_firstInTime_3 rfl rfl ?_
  refine w_getR dX1_firstInTime_4 fl_1_33 okC1 kd_50 (by decide) (by decide) rfl rf_50_0 ?_
  refine w_getI dX1_firstInTime_7 fl_1_111 okC6 kd_24 (by decide) (by decide) rfl ?_
  refine w_icmp_ge (t := 83) dX1_firstInTime_10 (by decide) (fun h => ?_) (fun h => ?_)
  · replace H := H.1 h
    refine w_iconst (v := 0) dX1_firstInTime_83 (by decide) ?_
    exact w_iret dX1_firstInTime_84 rfl ⟨_, rfl, H⟩
  · replace H := H.2 h
    refine w_aload_n dX1_firstInTime_13 rfl rfl ?_
    refine w_getI dX1_firstInTime_14 fl_1_66 okC1 kd_50 (by decide) (by decide) rfl ?_
    refine w_iload_n dX1_firstInTime_17 rfl rfl ?_
    refine w_iconst (v := (-1)) dX1_firstInTime_18 (by decide) ?_
    refine w_ixor dX1_firstInTime_19 ?_
    refine w_iand dX1_firstInTime_20 ?_
    refine w_iconst (v := 1) dX1_firstInTime_21 (by decide) ?_
    refine w_iload_n dX1_firstInTime_22 rfl rfl ?_
    refine w_ishl dX1_firstInTime_23 ?_
    refine w_iand dX1_firstInTime_24 ?_
    refine w_if_eq (t := 40) dX1_firstInTime_25 (by decide) (fun h => ?_) (fun h => ?_)
    · replace H := H.1 h
      skip
      exact H
    · replace H := H.2 h
      refine w_aload_n dX1_firstInTime_28 rfl rfl ?_
      refine w_iload_n dX1_firstInTime_29 rfl rfl ?_
      refine w_iald dX1_firstInTime_30 kd_46 (by decide) H.1 ?_
      replace H := H.2
      refine w_ldc (v := 2147483647) dX1_firstInTime_31 kl_1_28 ?_
      refine w_icmp_eq (t := 40) dX1_firstInTime_33 (by decide) (fun h => ?_) (fun h => ?_)
      · replace H := H.1 h
        skip
        exact H
      · replace H := H.2 h
        refine w_iconst (v := 1) dX1_firstInTime_36 (by decide) ?_
        refine w_goto (t := 41) dX1_firstInTime_37 (by decide) ?_
        skip
        exact H
set_option maxRecDepth 20000 in
theorem rX1_firstInTime_40 {l1 l3 : Int32} {I : MI} {Q : Int32 → MI → Prop} (H : (LX1_firstInTime_41 l1 l3 0 I Q)) : LX1_firstInTime_40 l1 l3 I Q := by
  show WP mX1_firstInTime 286 Rf0 40 [some (.ref 50), some (.int l1), some (.ref 46), some (.int l3), none] [] I (qi Q)
  refine w_iconst (v := 0) dX1_firstInTime_40 (by decide) ?_
  skip
  exact H
set_option maxRecDepth 20000 in
theorem rX1_firstInTime_41 {l1 l3 t0 : Int32} {I : MI} {Q : Int32 → MI → Prop} (H : ((t0 = 0 → (LX1_firstInTime_77 l1 l3 t0 I Q)) ∧ (¬ t0 = 0 → (vp_in l3 10 ∧ vp_in l3 10 ∧ Wi mX1_place [.int (l1 ||| ((1 : Int32) <<< (l3 &&& 31))), .int l3] I (fun r2 I1 => (vp_in r2 5120 ∧ ((I1 55 r2.toNatClampNeg) < ((I 46 l3.toNatClampNeg) + (I 53 l3.toNatClampNeg)) → (LX1_firstInTime_77 l1 l3 t0 I1 Q)) ∧ (¬ (I1 55 r2.toNatClampNeg) < ((I 46 l3.toNatClampNeg) + (I 53 l3.toNatClampNeg)) → (Q l3 I1)))))))) : LX1_firstInTime_41 l1 l3 t0 I Q := by
  show WP mX1_firstInTime 286 Rf0 41 [some (.ref 50), some (.int l1), some (.ref 46), some (.int l3), none] [.int t0] I (qi Q)
  refine w_istore (ls' := [some (.ref 50), some (.int l1), some (.ref 46), some (.int l3), some (.int t0)]) dX1_firstInTime_41 (by decide) rfl rfl ?_
  refine w_iload dX1_firstInTime_43 rfl ?_
  refine w_if_eq (t := 77) dX1_firstInTime_45 (by decide) (fun h => ?_) (fun h => ?_)
  · replace H := H.1 h
    skip
    exact H
  · replace H := H.2 h
    refine w_aload_n dX1_firstInTime_48 rfl rfl ?_
    refine w_iload_n dX1_firstInTime_49 rfl rfl ?_
    refine w_iald dX1_firstInTime_50 kd_46 (by decide) H.1 ?_
    replace H := H.2
    refine w_aload_n dX1_firstInTime_51 rfl rfl ?_
    refine w_getR dX1_firstInTime_52 fl_1_18 okC1 kd_50 (by decide) (by decide) rfl rf_50_4 ?_
    refine w_iload_n dX1_firstInTime_55 rfl rfl ?_
    refine w_iald dX1_firstInTime_56 kd_53 (by decide) H.1 ?_
    replace H := H.2
    refine w_iadd dX1_firstInTime_57 ?_
    refine w_aload_n dX1_firstInTime_58 rfl rfl ?_
    refine w_getR dX1_firstInTime_59 fl_1_25 okC1 kd_50 (by decide) (by decide) rfl rf_50_6 ?_
    refine w_iload_n dX1_firstInTime_62 rfl rfl ?_
    refine w_iconst (v := 1) dX1_firstInTime_63 (by decide) ?_
    refine w_iload_n dX1_firstInTime_64 rfl rfl ?_
    refine w_ishl dX1_firstInTime_65 ?_
    refine w_ior dX1_firstInTime_66 ?_
    refine w_iload_n dX1_firstInTime_67 rfl rfl ?_
    refine w_callS (st := [.ref 55, .int ((I 46 l3.toNatClampNeg) + (I 53 l3.toNatClampNeg))]) (As := [.int (l1 ||| ((1 : Int32) <<< (l3 &&& 31))), .int l3]) dX1_firstInTime_68 ml_1_100 okX1_place rfl (Nat.le_of_ble_eq_true rfl) (by decide) (Nat.le_of_ble_eq_true rfl) (wc_i H (fun r2 I1 H => ?_))
    refine w_iald dX1_firstInTime_71 kd_55 (by decide) H.1 ?_
    replace H := H.2
    refine w_icmp_gt (t := 77) dX1_firstInTime_72 (by decide) (fun h => ?_) (fun h => ?_)
    · replace H := H.1 h
      skip
      exact H
    · replace H := H.2 h
      refine w_iload_n dX1_firstInTime_75 rfl rfl ?_
      exact w_iret dX1_firstInTime_76 rfl ⟨_, rfl, H⟩
set_option maxRecDepth 20000 in
theorem rX1_firstInTime_77 {l1 l3 l4 : Int32} {I : MI} {Q : Int32 → MI → Prop} (H : (LX1_firstInTime_2 l1 (l3 + 1) I Q)) : LX1_firstInTime_77 l1 l3 l4 I Q := by
  show WP mX1_firstInTime 286 Rf0 77 [some (.ref 50), some (.int l1), some (.ref 46), some (.int l3), some (.int l4)] [] I (qi Q)
  refine w_iinc (v := l3 + 1) (ls' := [some (.ref 50), some (.int l1), some (.ref 46), some (.int (l3 + 1)), some (.int l4)]) dX1_firstInTime_77 rfl rfl (by decide) rfl rfl ?_
  refine w_goto (t := 2) dX1_firstInTime_80 (by decide) ?_
  refine w_less (ls' := [some (.ref 50), some (.int l1), some (.ref 46), some (.int (l3 + 1)), none]) (by simp [lsub]) ?_
  exact H
set_option maxRecDepth 20000 in
theorem rX1_firstInTime {a1 : Int32} {I : MI} {Q : Int32 → MI → Prop} (H : (LX1_firstInTime_2 a1 1 I Q)) : Wi mX1_firstInTime [.ref 50, .int a1, .ref 46] I Q := by
  show WP mX1_firstInTime 286 Rf0 0 [some (.ref 50), some (.int a1), some (.ref 46), none, none] [] I (qi Q)
  refine w_iconst (v := 1) dX1_firstInTime_0 (by decide) ?_
  refine w_istore_n (ls' := [some (.ref 50), some (.int a1), some (.ref 46), some (.int 1), none]) dX1_firstInTime_1 rfl (by decide) rfl rfl ?_
  skip
  exact H
theorem dX2_remember_0 : decode cX2_remember 0 = .ok (.aload_n 0, 1) := by decide +kernel
theorem dX2_remember_1 : decode cX2_remember 1 = .ok (.getfield 11, 3) := by decide +kernel
theorem dX2_remember_4 : decode cX2_remember 4 = .ok (.aload_n 0, 1) := by decide +kernel
theorem dX2_remember_5 : decode cX2_remember 5 = .ok (.getfield 22, 3) := by decide +kernel
theorem dX2_remember_8 : decode cX2_remember 8 = .ok (.aaload, 1) := by decide +kernel
theorem dX2_remember_9 : decode cX2_remember 9 = .ok (.aload_n 1, 1) := by decide +kernel
theorem dX2_remember_10 : decode cX2_remember 10 = .ok (.invokevirtual 25, 3) := by decide +kernel
theorem dX2_remember_13 : decode cX2_remember 13 = .ok (.aload_n 0, 1) := by decide +kernel
theorem dX2_remember_14 : decode cX2_remember 14 = .ok (.aload_n 0, 1) := by decide +kernel
theorem dX2_remember_15 : decode cX2_remember 15 = .ok (.getfield 22, 3) := by decide +kernel
theorem dX2_remember_18 : decode cX2_remember 18 = .ok (.iconst 1, 1) := by decide +kernel
theorem dX2_remember_19 : decode cX2_remember 19 = .ok (.iadd, 1) := by decide +kernel
theorem dX2_remember_20 : decode cX2_remember 20 = .ok (.bipush 12, 2) := by decide +kernel
theorem dX2_remember_22 : decode cX2_remember 22 = .ok (.irem, 1) := by decide +kernel
theorem dX2_remember_23 : decode cX2_remember 23 = .ok (.putfield 22, 3) := by decide +kernel
theorem dX2_remember_26 : decode cX2_remember 26 = .ok (.aload_n 0, 1) := by decide +kernel
theorem dX2_remember_27 : decode cX2_remember 27 = .ok (.aload_n 0, 1) := by decide +kernel
theorem dX2_remember_28 : decode cX2_remember 28 = .ok (.getfield 18, 3) := by decide +kernel
theorem dX2_remember_31 : decode cX2_remember 31 = .ok (.iconst 1, 1) := by decide +kernel
theorem dX2_remember_32 : decode cX2_remember 32 = .ok (.iadd, 1) := by decide +kernel
theorem dX2_remember_33 : decode cX2_remember 33 = .ok (.bipush 12, 2) := by decide +kernel
theorem dX2_remember_35 : decode cX2_remember 35 = .ok (.invokestatic 29, 3) := by decide +kernel
theorem dX2_remember_38 : decode cX2_remember 38 = .ok (.putfield 18, 3) := by decide +kernel
theorem dX2_remember_41 : decode cX2_remember 41 = .ok (.return_, 1) := by decide +kernel
set_option maxRecDepth 20000 in
theorem rX2_remember {I : MI} {Q : MI → Prop} (H : (vp_in (I 61 1) 12 ∧ ∃ r1 : Nat, Rf0 62 (I 61 1).toNatClampNeg = some r1 ∧ kd r1 = (0, 8) ∧ r1 < 286 ∧ Wv mX8_copyFrom [.ref r1, .ref 30] I (fun I2 => (∀ I3 : MI, I3 = up2 I2 61 1 (((I2 61 1) + 1) - ((I2 61 1) + 1) / 12 * 12) → ∀ x4 : Int32, x4 = (if 12 < ((I3 61 2) + 1) then 12 else ((I3 61 2) + 1)) → ∀ I5 : MI, I5 = up2 I3 61 2 x4 → Q I5)))) : Wv mX2_remember [.ref 61, .ref 30] I Q := by
  show WP mX2_remember 286 Rf0 0 [some (.ref 61), some (.ref 30)] [] I (qv Q)
  refine w_aload_n dX2_remember_0 rfl rfl ?_
  refine w_getR dX2_remember_1 fl_2_11 okC2 kd_61 (by decide) (by decide) rfl rf_61_0 ?_
  refine w_aload_n dX2_remember_4 rfl rfl ?_
  refine w_getI dX2_remember_5 fl_2_22 okC2 kd_61 (by decide) (by decide) rfl ?_
  obtain ⟨hi, r1, hr, hkr1, hlr1, H⟩ := H
  refine w_aald dX2_remember_8 kd_62 (by decide) hi hr ?_
  refine w_aload_n dX2_remember_9 rfl rfl ?_
  refine w_callV (st := []) (As := [.ref 30]) dX2_remember_10 ml_2_25 okX8_copyFrom hkr1 hlr1 rfl rfl rfl (Nat.le_of_ble_eq_true rfl) (by decide) (Nat.le_of_ble_eq_true rfl) (wc_v H (fun I2 H => ?_))
  refine w_aload_n dX2_remember_13 rfl rfl ?_
  refine w_aload_n dX2_remember_14 rfl rfl ?_
  refine w_getI dX2_remember_15 fl_2_22 okC2 kd_61 (by decide) (by decide) rfl ?_
  refine w_iconst (v := 1) dX2_remember_18 (by decide) ?_
  refine w_iadd dX2_remember_19 ?_
  refine w_bipush (v := 12) dX2_remember_20 (by decide) ?_
  refine w_irem dX2_remember_22 (by decide) ?_
  refine w_putI dX2_remember_23 fl_2_22 okC2 kd_61 (by decide) (by decide) rfl rfl rfl (w_up fun I3 hI => ?_)
  replace H := H I3 hI
  refine w_aload_n dX2_remember_26 rfl rfl ?_
  refine w_aload_n dX2_remember_27 rfl rfl ?_
  refine w_getI dX2_remember_28 fl_2_18 okC2 kd_61 (by decide) (by decide) rfl ?_
  refine w_iconst (v := 1) dX2_remember_31 (by decide) ?_
  refine w_iadd dX2_remember_32 ?_
  refine w_bipush (v := 12) dX2_remember_33 (by decide) ?_
  refine w_min dX2_remember_35 ml_2_29 minS maI minC (by decide) (Nat.le_of_ble_eq_true rfl) ?_
  refine w_top fun x4 hx => ?_
  replace H := H x4 hx
  refine w_putI dX2_remember_38 fl_2_18 okC2 kd_61 (by decide) (by decide) rfl rfl rfl (w_up fun I5 hI => ?_)
  replace H := H I5 hI
  exact w_vret dX2_remember_41 rfl ⟨rfl, H⟩
theorem dX2_recall_0 : decode cX2_recall 0 = .ok (.aload_n 0, 1) := by decide +kernel
theorem dX2_recall_1 : decode cX2_recall 1 = .ok (.getfield 18, 3) := by decide +kernel
theorem dX2_recall_4 : decode cX2_recall 4 = .ok (.ifCond .ne 4, 3) := by decide +kernel
theorem dX2_recall_7 : decode cX2_recall 7 = .ok (.return_, 1) := by decide +kernel
theorem dX2_recall_8 : decode cX2_recall 8 = .ok (.aload_n 0, 1) := by decide +kernel
theorem dX2_recall_9 : decode cX2_recall 9 = .ok (.dup, 1) := by decide +kernel
theorem dX2_recall_10 : decode cX2_recall 10 = .ok (.getfield 18, 3) := by decide +kernel
theorem dX2_recall_13 : decode cX2_recall 13 = .ok (.iconst 1, 1) := by decide +kernel
theorem dX2_recall_14 : decode cX2_recall 14 = .ok (.isub, 1) := by decide +kernel
theorem dX2_recall_15 : decode cX2_recall 15 = .ok (.putfield 18, 3) := by decide +kernel
theorem dX2_recall_18 : decode cX2_recall 18 = .ok (.aload_n 0, 1) := by decide +kernel
theorem dX2_recall_19 : decode cX2_recall 19 = .ok (.aload_n 0, 1) := by decide +kernel
theorem dX2_recall_20 : decode cX2_recall 20 = .ok (.getfield 22, 3) := by decide +kernel
theorem dX2_recall_23 : decode cX2_recall 23 = .ok (.bipush 12, 2) := by decide +kernel
theorem dX2_recall_25 : decode cX2_recall 25 = .ok (.iadd, 1) := by decide +kernel
theorem dX2_recall_26 : decode cX2_recall 26 = .ok (.iconst 1, 1) := by decide +kernel
theorem dX2_recall_27 : decode cX2_recall 27 = .ok (.isub, 1) := by decide +kernel
theorem dX2_recall_28 : decode cX2_recall 28 = .ok (.bipush 12, 2) := by decide +kernel
theorem dX2_recall_30 : decode cX2_recall 30 = .ok (.irem, 1) := by decide +kernel
theorem dX2_recall_31 : decode cX2_recall 31 = .ok (.putfield 22, 3) := by decide +kernel
theorem dX2_recall_34 : decode cX2_recall 34 = .ok (.aload_n 1, 1) := by decide +kernel
theorem dX2_recall_35 : decode cX2_recall 35 = .ok (.aload_n 0, 1) := by decide +kernel
theorem dX2_recall_36 : decode cX2_recall 36 = .ok (.getfield 11, 3) := by decide +kernel
theorem dX2_recall_39 : decode cX2_recall 39 = .ok (.aload_n 0, 1) := by decide +kernel
theorem dX2_recall_40 : decode cX2_recall 40 = .ok (.getfield 22, 3) := by decide +kernel
theorem dX2_recall_43 : decode cX2_recall 43 = .ok (.aaload, 1) := by decide +kernel
theorem dX2_recall_44 : decode cX2_recall 44 = .ok (.invokevirtual 25, 3) := by decide +kernel
theorem dX2_recall_47 : decode cX2_recall 47 = .ok (.return_, 1) := by decide +kernel
set_option maxRecDepth 20000 in
theorem rX2_recall {I : MI} {Q : MI → Prop} (H : ((¬ (I 61 2) = 0 → (∀ I1 : MI, I1 = up2 I 61 2 ((I 61 2) - 1) → ∀ I2 : MI, I2 = up2 I1 61 1 ((((I1 61 1) + 12) - 1) - (((I1 61 1) + 12) - 1) / 12 * 12) → vp_in (I2 61 1) 12 ∧ ∃ r3 : Nat, Rf0 62 (I2 61 1).toNatClampNeg = some r3 ∧ kd r3 = (0, 8) ∧ r3 < 286 ∧ Wv mX8_copyFrom [.ref 30, .ref r3] I2 (fun I4 => (Q I4)))) ∧ ((I 61 2) = 0 → (Q I)))) : Wv mX2_recall [.ref 61, .ref 30] I Q := by
  show WP mX2_recall 286 Rf0 0 [some (.ref 61), some (.ref 30)] [] I (qv Q)
  refine w_aload_n dX2_recall_0 rfl rfl ?_
  refine w_getI dX2_recall_1 fl_2_18 okC2 kd_61 (by decide) (by decide) rfl ?_
  refine w_if_ne (t := 8) dX2_recall_4 (by decide) (fun h => ?_) (fun h => ?_)
  · replace H := H.1 h
    refine w_aload_n dX2_recall_8 rfl rfl ?_
    refine w_dup dX2_recall_9 rfl ?_
    refine w_getI dX2_recall_10 fl_2_18 okC2 kd_61 (by decide) (by decide) rfl ?_
    refine w_iconst (v := 1) dX2_recall_13 (by decide) ?_
    refine w_isub dX2_recall_14 ?_
    refine w_putI dX2_recall_15 fl_2_18 okC2 kd_61 (by decide) (by decide) rfl rfl rfl (w_up fun I1 hI => ?_)
    replace H := H I1 hI
    refine w_aload_n dX2_recall_18 rfl rfl ?_
    refine w_aload_n dX2_recall_19 rfl rfl ?_
    refine w_getI dX2_recall_20 fl_2_22 okC2 kd_61 (by decide) (by decide) rfl ?_
    refine w_bipush (v := 12) dX2_recall_23 (by decide) ?_
    refine w_iadd dX2_recall_25 ?_
    refine w_iconst (v := 1) dX2_recall_26 (by decide) ?_
    refine w_isub dX2_recall_27 ?_
    refine w_bipush (v := 12) dX2_recall_28 (by decide) ?_
    refine w_irem dX2_recall_30 (by decide) ?_
    refine w_putI dX2_recall_31 fl_2_22 okC2 kd_61 (by decide) (by decide) rfl rfl rfl (w_up fun I2 hI => ?_)
    replace H := H I2 hI
    refine w_aload_n dX2_recall_34 rfl rfl ?_
    refine w_aload_n dX2_recall_35 rfl rfl ?_
    refine w_getR dX2_recall_36 fl_2_11 okC2 kd_61 (by decide) (by decide) rfl rf_61_0 ?_
    refine w_aload_n dX2_recall_39 rfl rfl ?_
    refine w_getI dX2_recall_40 fl_2_22 okC2 kd_61 (by decide) (by decide) rfl ?_
    obtain ⟨hi, r3, hr, hkr3, hlr3, H⟩ := H
    refine w_aald dX2_recall_43 kd_62 (by decide) hi hr ?_
    refine w_callV (st := []) (As := [.ref r3]) dX2_recall_44 ml_2_25 okX8_copyFrom kd_30 (by decide) rfl rfl rfl (Nat.le_of_ble_eq_true rfl) (by decide) (Nat.le_of_ble_eq_true rfl) (wc_v H (fun I4 H => ?_))
    exact w_vret dX2_recall_47 rfl ⟨rfl, H⟩
  · replace H := H.2 h
    exact w_vret dX2_recall_7 rfl ⟨rfl, H⟩
theorem dX3_clear_0 : decode cX3_clear 0 = .ok (.aload_n 0, 1) := by decide +kernel
theorem dX3_clear_1 : decode cX3_clear 1 = .ok (.bipush (-2), 2) := by decide +kernel
theorem dX3_clear_3 : decode cX3_clear 3 = .ok (.putfield 24, 3) := by decide +kernel
theorem dX3_clear_6 : decode cX3_clear 6 = .ok (.aload_n 0, 1) := by decide +kernel
theorem dX3_clear_7 : decode cX3_clear 7 = .ok (.iconst 0, 1) := by decide +kernel
theorem dX3_clear_8 : decode cX3_clear 8 = .ok (.putfield 28, 3) := by decide +kernel
theorem dX3_clear_11 : decode cX3_clear 11 = .ok (.aload_n 0, 1) := by decide +kernel
theorem dX3_clear_12 : decode cX3_clear 12 = .ok (.iconst 0, 1) := by decide +kernel
theorem dX3_clear_13 : decode cX3_clear 13 = .ok (.putfield 31, 3) := by decide +kernel
theorem dX3_clear_16 : decode cX3_clear 16 = .ok (.return_, 1) := by decide +kernel
set_option maxRecDepth 20000 in
theorem rX3_clear {I : MI} {Q : MI → Prop} (H : (∀ I1 : MI, I1 = up2 I 57 0 (-2) → ∀ I2 : MI, I2 = up2 I1 57 1 0 → ∀ I3 : MI, I3 = up2 I2 57 2 0 → Q I3)) : Wv mX3_clear [.ref 57] I Q := by
  show WP mX3_clear 286 Rf0 0 [some (.ref 57)] [] I (qv Q)
  refine w_aload_n dX3_clear_0 rfl rfl ?_
  refine w_bipush (v := (-2)) dX3_clear_1 (by decide) ?_
  refine w_putI dX3_clear_3 fl_3_24 okC3 kd_57 (by decide) (by decide) rfl rfl rfl (w_up fun I1 hI => ?_)
  replace H := H I1 hI
  refine w_aload_n dX3_clear_6 rfl rfl ?_
  refine w_iconst (v := 0) dX3_clear_7 (by decide) ?_
  refine w_putI dX3_clear_8 fl_3_28 okC3 kd_57 (by decide) (by decide) rfl rfl rfl (w_up fun I2 hI => ?_)
  replace H := H I2 hI
  refine w_aload_n dX3_clear_11 rfl rfl ?_
  refine w_iconst (v := 0) dX3_clear_12 (by decide) ?_
  refine w_putI dX3_clear_13 fl_3_31 okC3 kd_57 (by decide) (by decide) rfl rfl rfl (w_up fun I3 hI => ?_)
  replace H := H I3 hI
  exact w_vret dX3_clear_16 rfl ⟨rfl, H⟩
theorem dX3_add_0 : decode cX3_add 0 = .ok (.aload_n 0, 1) := by decide +kernel
theorem dX3_add_1 : decode cX3_add 1 = .ok (.getfield 28, 3) := by decide +kernel
theorem dX3_add_4 : decode cX3_add 4 = .ok (.bipush 12, 2) := by decide +kernel
theorem dX3_add_6 : decode cX3_add 6 = .ok (.if_icmp .ge 43, 3) := by decide +kernel
theorem dX3_add_9 : decode cX3_add 9 = .ok (.aload_n 0, 1) := by decide +kernel
theorem dX3_add_10 : decode cX3_add 10 = .ok (.getfield 9, 3) := by decide +kernel
theorem dX3_add_13 : decode cX3_add 13 = .ok (.aload_n 0, 1) := by decide +kernel
theorem dX3_add_14 : decode cX3_add 14 = .ok (.getfield 28, 3) := by decide +kernel
theorem dX3_add_17 : decode cX3_add 17 = .ok (.iload_n 1, 1) := by decide +kernel
theorem dX3_add_18 : decode cX3_add 18 = .ok (.iastore, 1) := by decide +kernel
theorem dX3_add_19 : decode cX3_add 19 = .ok (.aload_n 0, 1) := by decide +kernel
theorem dX3_add_20 : decode cX3_add 20 = .ok (.getfield 15, 3) := by decide +kernel
theorem dX3_add_23 : decode cX3_add 23 = .ok (.aload_n 0, 1) := by decide +kernel
theorem dX3_add_24 : decode cX3_add 24 = .ok (.getfield 28, 3) := by decide +kernel
theorem dX3_add_27 : decode cX3_add 27 = .ok (.iload_n 2, 1) := by decide +kernel
theorem dX3_add_28 : decode cX3_add 28 = .ok (.iastore, 1) := by decide +kernel
theorem dX3_add_29 : decode cX3_add 29 = .ok (.aload_n 0, 1) := by decide +kernel
theorem dX3_add_30 : decode cX3_add 30 = .ok (.getfield 18, 3) := by decide +kernel
theorem dX3_add_33 : decode cX3_add 33 = .ok (.aload_n 0, 1) := by decide +kernel
theorem dX3_add_34 : decode cX3_add 34 = .ok (.getfield 28, 3) := by decide +kernel
theorem dX3_add_37 : decode cX3_add 37 = .ok (.iload_n 3, 1) := by decide +kernel
theorem dX3_add_38 : decode cX3_add 38 = .ok (.iastore, 1) := by decide +kernel
theorem dX3_add_39 : decode cX3_add 39 = .ok (.aload_n 0, 1) := by decide +kernel
theorem dX3_add_40 : decode cX3_add 40 = .ok (.dup, 1) := by decide +kernel
theorem dX3_add_41 : decode cX3_add 41 = .ok (.getfield 28, 3) := by decide +kernel
theorem dX3_add_44 : decode cX3_add 44 = .ok (.iconst 1, 1) := by decide +kernel
theorem dX3_add_45 : decode cX3_add 45 = .ok (.iadd, 1) := by decide +kernel
theorem dX3_add_46 : decode cX3_add 46 = .ok (.putfield 28, 3) := by decide +kernel
theorem dX3_add_49 : decode cX3_add 49 = .ok (.return_, 1) := by decide +kernel
set_option maxRecDepth 20000 in
theorem rX3_add {a1 a2 a3 : Int32} {I : MI} {Q : MI → Prop} (H : ((12 ≤ (I 57 1) → (Q I)) ∧ (¬ 12 ≤ (I 57 1) → (vp_in (I 57 1) 12 ∧ ∀ I1 : MI, I1 = up2 I 58 (I 57 1).toNatClampNeg a1 → vp_in (I1 57 1) 12 ∧ ∀ I2 : MI, I2 = up2 I1 59 (I1 57 1).toNatClampNeg a2 → vp_in (I2 57 1) 12 ∧ ∀ I3 : MI, I3 = up2 I2 60 (I2 57 1).toNatClampNeg a3 → ∀ I4 : MI, I4 = up2 I3 57 1 ((I3 57 1) + 1) → Q I4)))) : Wv mX3_add [.ref 57, .int a1, .int a2, .int a3] I Q := by
  show WP mX3_add 286 Rf0 0 [some (.ref 57), some (.int a1), some (.int a2), some (.int a3)] [] I (qv Q)
  refine w_aload_n dX3_add_0 rfl rfl ?_
  refine w_getI dX3_add_1 fl_3_28 okC3 kd_57 (by decide) (by decide) rfl ?_
  refine w_bipush (v := 12) dX3_add_4 (by decide) ?_
  refine w_icmp_ge (t := 49) dX3_add_6 (by decide) (fun h => ?_) (fun h => ?_)
  · replace H := H.1 h
    exact w_vret dX3_add_49 rfl ⟨rfl, H⟩
  · replace H := H.2 h
    refine w_aload_n dX3_add_9 rfl rfl ?_
    refine w_getR dX3_add_10 fl_3_9 okC3 kd_57 (by decide) (by decide) rfl rf_57_3 ?_
    refine w_aload_n dX3_add_13 rfl rfl ?_
    refine w_getI dX3_add_14 fl_3_28 okC3 kd_57 (by decide) (by decide) rfl ?_
    refine w_iload_n dX3_add_17 rfl rfl ?_
    refine w_iast dX3_add_18 kd_58 (by decide) H.1 (w_up fun I1 hI => ?_)
    replace H := H.2 I1 hI
    refine w_aload_n dX3_add_19 rfl rfl ?_
    refine w_getR dX3_add_20 fl_3_15 okC3 kd_57 (by decide) (by decide) rfl rf_57_4 ?_
    refine w_aload_n dX3_add_23 rfl rfl ?_
    refine w_getI dX3_add_24 fl_3_28 okC3 kd_57 (by decide) (by decide) rfl ?_
    refine w_iload_n dX3_add_27 rfl rfl ?_
    refine w_iast dX3_add_28 kd_59 (by decide) H.1 (w_up fun I2 hI => ?_)
    replace H := H.2 I2 hI
    refine w_aload_n dX3_add_29 rfl rfl ?_
    refine w_getR dX3_add_30 fl_3_18 okC3 kd_57 (by decide) (by decide) rfl rf_57_5 ?_
    refine w_aload_n dX3_add_33 rfl rfl ?_
    refine w_getI dX3_add_34 fl_3_28 okC3 kd_57 (by decide) (by decide) rfl ?_
    refine w_iload_n dX3_add_37 rfl rfl ?_
    refine w_iast dX3_add_38 kd_60 (by decide) H.1 (w_up fun I3 hI => ?_)
    replace H := H.2 I3 hI
    refine w_aload_n dX3_add_39 rfl rfl ?_
    refine w_dup dX3_add_40 rfl ?_
    refine w_getI dX3_add_41 fl_3_28 okC3 kd_57 (by decide) (by decide) rfl ?_
    refine w_iconst (v := 1) dX3_add_44 (by decide) ?_
    refine w_iadd dX3_add_45 ?_
    refine w_putI dX3_add_46 fl_3_28 okC3 kd_57 (by decide) (by decide) rfl rfl rfl (w_up fun I4 hI => ?_)
    replace H := H I4 hI
    exact w_vret dX3_add_49 rfl ⟨rfl, H⟩
theorem dX3_copyFrom_0 : decode cX3_copyFrom 0 = .ok (.aload_n 0, 1) := by decide +kernel
theorem dX3_copyFrom_1 : decode cX3_copyFrom 1 = .ok (.aload_n 1, 1) := by decide +kernel
theorem dX3_copyFrom_2 : decode cX3_copyFrom 2 = .ok (.getfield 24, 3) := by decide +kernel
theorem dX3_copyFrom_5 : decode cX3_copyFrom 5 = .ok (.putfield 24, 3) := by decide +kernel
theorem dX3_copyFrom_8 : decode cX3_copyFrom 8 = .ok (.aload_n 0, 1) := by decide +kernel
theorem dX3_copyFrom_9 : decode cX3_copyFrom 9 = .ok (.aload_n 1, 1) := by decide +kernel
theorem dX3_copyFrom_10 : decode cX3_copyFrom 10 = .ok (.getfield 28, 3) := by decide +kernel
theorem dX3_copyFrom_13 : decode cX3_copyFrom 13 = .ok (.putfield 28, 3) := by decide +kernel
theorem dX3_copyFrom_16 : decode cX3_copyFrom 16 = .ok (.aload_n 0, 1) := by decide +kernel
theorem dX3_copyFrom_17 : decode cX3_copyFrom 17 = .ok (.aload_n 1, 1) := by decide +kernel
theorem dX3_copyFrom_18 : decode cX3_copyFrom 18 = .ok (.getfield 31, 3) := by decide +kernel
theorem dX3_copyFrom_21 : decode cX3_copyFrom 21 = .ok (.putfield 31, 3) := by decide +kernel
theorem dX3_copyFrom_24 : decode cX3_copyFrom 24 = .ok (.aload_n 1, 1) := by decide +kernel
theorem dX3_copyFrom_25 : decode cX3_copyFrom 25 = .ok (.getfield 9, 3) := by decide +kernel
theorem dX3_copyFrom_28 : decode cX3_copyFrom 28 = .ok (.iconst 0, 1) := by decide +kernel
theorem dX3_copyFrom_29 : decode cX3_copyFrom 29 = .ok (.aload_n 0, 1) := by decide +kernel
theorem dX3_copyFrom_30 : decode cX3_copyFrom 30 = .ok (.getfield 9, 3) := by decide +kernel
theorem dX3_copyFrom_33 : decode cX3_copyFrom 33 = .ok (.iconst 0, 1) := by decide +kernel
theorem dX3_copyFrom_34 : decode cX3_copyFrom 34 = .ok (.bipush 12, 2) := by decide +kernel
theorem dX3_copyFrom_36 : decode cX3_copyFrom 36 = .ok (.invokestatic 34, 3) := by decide +kernel
theorem dX3_copyFrom_39 : decode cX3_copyFrom 39 = .ok (.aload_n 1, 1) := by decide +kernel
theorem dX3_copyFrom_40 : decode cX3_copyFrom 40 = .ok (.getfield 15, 3) := by decide +kernel
theorem dX3_copyFrom_43 : decode cX3_copyFrom 43 = .ok (.iconst 0, 1) := by decide +kernel
theorem dX3_copyFrom_44 : decode cX3_copyFrom 44 = .ok (.aload_n 0, 1) := by decide +kernel
theorem dX3_copyFrom_45 : decode cX3_copyFrom 45 = .ok (.getfield 15, 3) := by decide +kernel
theorem dX3_copyFrom_48 : decode cX3_copyFrom 48 = .ok (.iconst 0, 1) := by decide +kernel
theorem dX3_copyFrom_49 : decode cX3_copyFrom 49 = .ok (.bipush 12, 2) := by decide +kernel
theorem dX3_copyFrom_51 : decode cX3_copyFrom 51 = .ok (.invokestatic 34, 3) := by decide +kernel
theorem dX3_copyFrom_54 : decode cX3_copyFrom 54 = .ok (.aload_n 1, 1) := by decide +kernel
theorem dX3_copyFrom_55 : decode cX3_copyFrom 55 = .ok (.getfield 18, 3) := by decide +kernel
theorem dX3_copyFrom_58 : decode cX3_copyFrom 58 = .ok (.iconst 0, 1) := by decide +kernel
theorem dX3_copyFrom_59 : decode cX3_copyFrom 59 = .ok (.aload_n 0, 1) := by decide +kernel
theorem dX3_copyFrom_60 : decode cX3_copyFrom 60 = .ok (.getfield 18, 3) := by decide +kernel
theorem dX3_copyFrom_63 : decode cX3_copyFrom 63 = .ok (.iconst 0, 1) := by decide +kernel
theorem dX3_copyFrom_64 : decode cX3_copyFrom 64 = .ok (.bipush 12, 2) := by decide +kernel
theorem dX3_copyFrom_66 : decode cX3_copyFrom 66 = .ok (.invokestatic 34, 3) := by decide +kernel
theorem dX3_copyFrom_69 : decode cX3_copyFrom 69 = .ok (.return_, 1) := by decide +kernel
set_option maxRecDepth 20000 in
theorem rX3_copyFrom {c d : Nat} {I : MI} {Q : MI → Prop} (hc : IsLg c) (hd : IsLg d) (H : (∀ I1 : MI, I1 = up2 I c 0 (I d 0) → ∀ I2 : MI, I2 = up2 I1 c 1 (I1 d 1) → ∀ I3 : MI, I3 = up2 I2 c 2 (I2 d 2) → ∀ I4 : MI, I4 = upA I3 (c + 1) (va_cpy (I3 (d + 1)) (I3 (c + 1)) 0 0 12) → ∀ I5 : MI, I5 = upA I4 (c + 2) (va_cpy (I4 (d + 2)) (I4 (c + 2)) 0 0 12) → ∀ I6 : MI, I6 = upA I5 (c + 3) (va_cpy (I5 (d + 3)) (I5 (c + 3)) 0 0 12) → Q I6)) : Wv mX3_copyFrom [.ref c, .ref d] I Q := by
  show WP mX3_copyFrom 286 Rf0 0 [some (.ref c), some (.ref d)] [] I (qv Q)
  refine w_aload_n dX3_copyFrom_0 rfl rfl ?_
  refine w_aload_n dX3_copyFrom_1 rfl rfl ?_
  refine w_getI dX3_copyFrom_2 fl_3_24 okC3 hd.1 (by have := hd.2.1; omega) (by decide) rfl ?_
  refine w_putI dX3_copyFrom_5 fl_3_24 okC3 hc.1 (by have := hc.2.1; omega) (by decide) rfl rfl rfl (w_up fun I1 hI => ?_)
  replace H := H I1 hI
  refine w_aload_n dX3_copyFrom_8 rfl rfl ?_
  refine w_aload_n dX3_copyFrom_9 rfl rfl ?_
  refine w_getI dX3_copyFrom_10 fl_3_28 okC3 hd.1 (by have := hd.2.1; omega) (by decide) rfl ?_
  refine w_putI dX3_copyFrom_13 fl_3_28 okC3 hc.1 (by have := hc.2.1; omega) (by decide) rfl rfl rfl (w_up fun I2 hI => ?_)
  replace H := H I2 hI
  refine w_aload_n dX3_copyFrom_16 rfl rfl ?_
  refine w_aload_n dX3_copyFrom_17 rfl rfl ?_
  refine w_getI dX3_copyFrom_18 fl_3_31 okC3 hd.1 (by have := hd.2.1; omega) (by decide) rfl ?_
  refine w_putI dX3_copyFrom_21 fl_3_31 okC3 hc.1 (by have := hc.2.1; omega) (by decide) rfl rfl rfl (w_up fun I3 hI => ?_)
  replace H := H I3 hI
  refine w_aload_n dX3_copyFrom_24 rfl rfl ?_
  refine w_getR dX3_copyFrom_25 fl_3_9 okC3 hd.1 (by have := hd.2.1; omega) (by decide) rfl hd.2.2.1 ?_
  refine w_iconst (v := 0) dX3_copyFrom_28 (by decide) ?_
  refine w_aload_n dX3_copyFrom_29 rfl rfl ?_
  refine w_getR dX3_copyFrom_30 fl_3_9 okC3 hc.1 (by have := hc.2.1; omega) (by decide) rfl hc.2.2.1 ?_
  refine w_iconst (v := 0) dX3_copyFrom_33 (by decide) ?_
  refine w_bipush (v := 12) dX3_copyFrom_34 (by decide) ?_
  refine w_copy dX3_copyFrom_36 ml_3_34 cpN cpS cpI hd.2.2.2.2.2.1 hc.2.2.2.2.2.1 (by have := hd.2.1; omega) (by have := hc.2.1; omega) (by decide) (by decide) (by decide) (by decide) (by decide) (by decide) (Nat.le_of_ble_eq_true rfl) (w_up fun I4 hI => ?_)
  replace H := H I4 hI
  refine w_aload_n dX3_copyFrom_39 rfl rfl ?_
  refine w_getR dX3_copyFrom_40 fl_3_15 okC3 hd.1 (by have := hd.2.1; omega) (by decide) rfl hd.2.2.2.1 ?_
  refine w_iconst (v := 0) dX3_copyFrom_43 (by decide) ?_
  refine w_aload_n dX3_copyFrom_44 rfl rfl ?_
  refine w_getR dX3_copyFrom_45 fl_3_15 okC3 hc.1 (by have := hc.2.1; omega) (by decide) rfl hc.2.2.2.1 ?_
  refine w_iconst (v := 0) dX3_copyFrom_48 (by decide) ?_
  refine w_bipush (v := 12) dX3_copyFrom_49 (by decide) ?_
  refine w_copy dX3_copyFrom_51 ml_3_34 cpN cpS cpI hd.2.2.2.2.2.2.1 hc.2.2.2.2.2.2.1 (by have := hd.2.1; omega) (by have := hc.2.1; omega) (by decide) (by decide) (by decide) (by decide) (by decide) (by decide) (Nat.le_of_ble_eq_true rfl) (w_up fun I5 hI => ?_)
  replace H := H I5 hI
  refine w_aload_n dX3_copyFrom_54 rfl rfl ?_
  refine w_getR dX3_copyFrom_55 fl_3_18 okC3 hd.1 (by have := hd.2.1; omega) (by decide) rfl hd.2.2.2.2.1 ?_
  refine w_iconst (v := 0) dX3_copyFrom_58 (by decide) ?_
  refine w_aload_n dX3_copyFrom_59 rfl rfl ?_
  refine w_getR dX3_copyFrom_60 fl_3_18 okC3 hc.1 (by have := hc.2.1; omega) (by decide) rfl hc.2.2.2.2.1 ?_
  refine w_iconst (v := 0) dX3_copyFrom_63 (by decide) ?_
  refine w_bipush (v := 12) dX3_copyFrom_64 (by decide) ?_
  refine w_copy dX3_copyFrom_66 ml_3_34 cpN cpS cpI hd.2.2.2.2.2.2.2 hc.2.2.2.2.2.2.2 (by have := hd.2.1; omega) (by have := hc.2.1; omega) (by decide) (by decide) (by decide) (by decide) (by decide) (by decide) (Nat.le_of_ble_eq_true rfl) (w_up fun I6 hI => ?_)
  replace H := H I6 hI
  exact w_vret dX3_copyFrom_69 rfl ⟨rfl, H⟩
theorem dX6_clear_0 : decode cX6_clear 0 = .ok (.aload_n 0, 1) := by decide +kernel
theorem dX6_clear_1 : decode cX6_clear 1 = .ok (.iconst 2, 1) := by decide +kernel
theorem dX6_clear_2 : decode cX6_clear 2 = .ok (.putfield 30, 3) := by decide +kernel
theorem dX6_clear_5 : decode cX6_clear 5 = .ok (.aload_n 0, 1) := by decide +kernel
theorem dX6_clear_6 : decode cX6_clear 6 = .ok (.iconst 0, 1) := by decide +kernel
theorem dX6_clear_7 : decode cX6_clear 7 = .ok (.putfield 34, 3) := by decide +kernel
theorem dX6_clear_10 : decode cX6_clear 10 = .ok (.aload_n 0, 1) := by decide +kernel
theorem dX6_clear_11 : decode cX6_clear 11 = .ok (.iconst 0, 1) := by decide +kernel
theorem dX6_clear_12 : decode cX6_clear 12 = .ok (.putfield 37, 3) := by decide +kernel
theorem dX6_clear_15 : decode cX6_clear 15 = .ok (.aload_n 0, 1) := by decide +kernel
theorem dX6_clear_16 : decode cX6_clear 16 = .ok (.bipush 60, 2) := by decide +kernel
theorem dX6_clear_18 : decode cX6_clear 18 = .ok (.putfield 40, 3) := by decide +kernel
theorem dX6_clear_21 : decode cX6_clear 21 = .ok (.aload_n 0, 1) := by decide +kernel
theorem dX6_clear_22 : decode cX6_clear 22 = .ok (.sipush 300, 3) := by decide +kernel
theorem dX6_clear_25 : decode cX6_clear 25 = .ok (.putfield 43, 3) := by decide +kernel
theorem dX6_clear_28 : decode cX6_clear 28 = .ok (.aload_n 0, 1) := by decide +kernel
theorem dX6_clear_29 : decode cX6_clear 29 = .ok (.iconst 5, 1) := by decide +kernel
theorem dX6_clear_30 : decode cX6_clear 30 = .ok (.putfield 46, 3) := by decide +kernel
theorem dX6_clear_33 : decode cX6_clear 33 = .ok (.aload_n 0, 1) := by decide +kernel
theorem dX6_clear_34 : decode cX6_clear 34 = .ok (.bipush 10, 2) := by decide +kernel
theorem dX6_clear_36 : decode cX6_clear 36 = .ok (.putfield 49, 3) := by decide +kernel
theorem dX6_clear_39 : decode cX6_clear 39 = .ok (.return_, 1) := by decide +kernel
set_option maxRecDepth 20000 in
theorem rX6_clear {I : MI} {Q : MI → Prop} (H : (∀ I1 : MI, I1 = up2 I 4 0 2 → ∀ I2 : MI, I2 = up2 I1 4 1 0 → ∀ I3 : MI, I3 = up2 I2 4 2 0 → ∀ I4 : MI, I4 = up2 I3 4 3 60 → ∀ I5 : MI, I5 = up2 I4 4 4 300 → ∀ I6 : MI, I6 = up2 I5 4 5 5 → ∀ I7 : MI, I7 = up2 I6 4 6 10 → Q I7)) : Wv mX6_clear [.ref 4] I Q := by
  show WP mX6_clear 286 Rf0 0 [some (.ref 4)] [] I (qv Q)
  refine w_aload_n dX6_clear_0 rfl rfl ?_
  refine w_iconst (v := 2) dX6_clear_1 (by decide) ?_
  refine w_putI dX6_clear_2 fl_6_30 okC6 kd_4 (by decide) (by decide) rfl rfl rfl (w_up fun I1 hI => ?_)
  replace H := H I1 hI
  refine w_aload_n dX6_clear_5 rfl rfl ?_
  refine w_iconst (v := 0) dX6_clear_6 (by decide) ?_
  refine w_putI dX6_clear_7 fl_6_34 okC6 kd_4 (by decide) (by decide) rfl rfl rfl (w_up fun I2 hI => ?_)
  replace H := H I2 hI
  refine w_aload_n dX6_clear_10 rfl rfl ?_
  refine w_iconst (v := 0) dX6_clear_11 (by decide) ?_
  refine w_putI dX6_clear_12 fl_6_37 okC6 kd_4 (by decide) (by decide) rfl rfl rfl (w_up fun I3 hI => ?_)
  replace H := H I3 hI
  refine w_aload_n dX6_clear_15 rfl rfl ?_
  refine w_bipush (v := 60) dX6_clear_16 (by decide) ?_
  refine w_putI dX6_clear_18 fl_6_40 okC6 kd_4 (by decide) (by decide) rfl rfl rfl (w_up fun I4 hI => ?_)
  replace H := H I4 hI
  refine w_aload_n dX6_clear_21 rfl rfl ?_
  refine w_sipush (v := 300) dX6_clear_22 (by decide) ?_
  refine w_putI dX6_clear_25 fl_6_43 okC6 kd_4 (by decide) (by decide) rfl rfl rfl (w_up fun I5 hI => ?_)
  replace H := H I5 hI
  refine w_aload_n dX6_clear_28 rfl rfl ?_
  refine w_iconst (v := 5) dX6_clear_29 (by decide) ?_
  refine w_putI dX6_clear_30 fl_6_46 okC6 kd_4 (by decide) (by decide) rfl rfl rfl (w_up fun I6 hI => ?_)
  replace H := H I6 hI
  refine w_aload_n dX6_clear_33 rfl rfl ?_
  refine w_bipush (v := 10) dX6_clear_34 (by decide) ?_
  refine w_putI dX6_clear_36 fl_6_49 okC6 kd_4 (by decide) (by decide) rfl rfl rfl (w_up fun I7 hI => ?_)
  replace H := H I7 hI
  exact w_vret dX6_clear_39 rfl ⟨rfl, H⟩
theorem dX6_copyFrom_0 : decode cX6_copyFrom 0 = .ok (.aload_n 0, 1) := by decide +kernel
theorem dX6_copyFrom_1 : decode cX6_copyFrom 1 = .ok (.aload_n 1, 1) := by decide +kernel
theorem dX6_copyFrom_2 : decode cX6_copyFrom 2 = .ok (.getfield 30, 3) := by decide +kernel
theorem dX6_copyFrom_5 : decode cX6_copyFrom 5 = .ok (.putfield 30, 3) := by decide +kernel
theorem dX6_copyFrom_8 : decode cX6_copyFrom 8 = .ok (.aload_n 0, 1) := by decide +kernel
theorem dX6_copyFrom_9 : decode cX6_copyFrom 9 = .ok (.aload_n 1, 1) := by decide +kernel
theorem dX6_copyFrom_10 : decode cX6_copyFrom 10 = .ok (.getfield 34, 3) := by decide +kernel
theorem dX6_copyFrom_13 : decode cX6_copyFrom 13 = .ok (.putfield 34, 3) := by decide +kernel
theorem dX6_copyFrom_16 : decode cX6_copyFrom 16 = .ok (.aload_n 0, 1) := by decide +kernel
theorem dX6_copyFrom_17 : decode cX6_copyFrom 17 = .ok (.aload_n 1, 1) := by decide +kernel
theorem dX6_copyFrom_18 : decode cX6_copyFrom 18 = .ok (.getfield 37, 3) := by decide +kernel
theorem dX6_copyFrom_21 : decode cX6_copyFrom 21 = .ok (.putfield 37, 3) := by decide +kernel
theorem dX6_copyFrom_24 : decode cX6_copyFrom 24 = .ok (.aload_n 0, 1) := by decide +kernel
theorem dX6_copyFrom_25 : decode cX6_copyFrom 25 = .ok (.aload_n 1, 1) := by decide +kernel
theorem dX6_copyFrom_26 : decode cX6_copyFrom 26 = .ok (.getfield 40, 3) := by decide +kernel
theorem dX6_copyFrom_29 : decode cX6_copyFrom 29 = .ok (.putfield 40, 3) := by decide +kernel
theorem dX6_copyFrom_32 : decode cX6_copyFrom 32 = .ok (.aload_n 0, 1) := by decide +kernel
theorem dX6_copyFrom_33 : decode cX6_copyFrom 33 = .ok (.aload_n 1, 1) := by decide +kernel
theorem dX6_copyFrom_34 : decode cX6_copyFrom 34 = .ok (.getfield 43, 3) := by decide +kernel
theorem dX6_copyFrom_37 : decode cX6_copyFrom 37 = .ok (.putfield 43, 3) := by decide +kernel
theorem dX6_copyFrom_40 : decode cX6_copyFrom 40 = .ok (.aload_n 0, 1) := by decide +kernel
theorem dX6_copyFrom_41 : decode cX6_copyFrom 41 = .ok (.aload_n 1, 1) := by decide +kernel
theorem dX6_copyFrom_42 : decode cX6_copyFrom 42 = .ok (.getfield 46, 3) := by decide +kernel
theorem dX6_copyFrom_45 : decode cX6_copyFrom 45 = .ok (.putfield 46, 3) := by decide +kernel
theorem dX6_copyFrom_48 : decode cX6_copyFrom 48 = .ok (.aload_n 0, 1) := by decide +kernel
theorem dX6_copyFrom_49 : decode cX6_copyFrom 49 = .ok (.aload_n 1, 1) := by decide +kernel
theorem dX6_copyFrom_50 : decode cX6_copyFrom 50 = .ok (.getfield 49, 3) := by decide +kernel
theorem dX6_copyFrom_53 : decode cX6_copyFrom 53 = .ok (.putfield 49, 3) := by decide +kernel
theorem dX6_copyFrom_56 : decode cX6_copyFrom 56 = .ok (.aload_n 1, 1) := by decide +kernel
theorem dX6_copyFrom_57 : decode cX6_copyFrom 57 = .ok (.getfield 9, 3) := by decide +kernel
theorem dX6_copyFrom_60 : decode cX6_copyFrom 60 = .ok (.iconst 0, 1) := by decide +kernel
theorem dX6_copyFrom_61 : decode cX6_copyFrom 61 = .ok (.aload_n 0, 1) := by decide +kernel
theorem dX6_copyFrom_62 : decode cX6_copyFrom 62 = .ok (.getfield 9, 3) := by decide +kernel
theorem dX6_copyFrom_65 : decode cX6_copyFrom 65 = .ok (.iconst 0, 1) := by decide +kernel
theorem dX6_copyFrom_66 : decode cX6_copyFrom 66 = .ok (.bipush 18, 2) := by decide +kernel
theorem dX6_copyFrom_68 : decode cX6_copyFrom 68 = .ok (.invokestatic 52, 3) := by decide +kernel
theorem dX6_copyFrom_71 : decode cX6_copyFrom 71 = .ok (.aload_n 1, 1) := by decide +kernel
theorem dX6_copyFrom_72 : decode cX6_copyFrom 72 = .ok (.getfield 15, 3) := by decide +kernel
theorem dX6_copyFrom_75 : decode cX6_copyFrom 75 = .ok (.iconst 0, 1) := by decide +kernel
theorem dX6_copyFrom_76 : decode cX6_copyFrom 76 = .ok (.aload_n 0, 1) := by decide +kernel
theorem dX6_copyFrom_77 : decode cX6_copyFrom 77 = .ok (.getfield 15, 3) := by decide +kernel
theorem dX6_copyFrom_80 : decode cX6_copyFrom 80 = .ok (.iconst 0, 1) := by decide +kernel
theorem dX6_copyFrom_81 : decode cX6_copyFrom 81 = .ok (.bipush 18, 2) := by decide +kernel
theorem dX6_copyFrom_83 : decode cX6_copyFrom 83 = .ok (.invokestatic 52, 3) := by decide +kernel
theorem dX6_copyFrom_86 : decode cX6_copyFrom 86 = .ok (.aload_n 1, 1) := by decide +kernel
theorem dX6_copyFrom_87 : decode cX6_copyFrom 87 = .ok (.getfield 18, 3) := by decide +kernel
theorem dX6_copyFrom_90 : decode cX6_copyFrom 90 = .ok (.iconst 0, 1) := by decide +kernel
theorem dX6_copyFrom_91 : decode cX6_copyFrom 91 = .ok (.aload_n 0, 1) := by decide +kernel
theorem dX6_copyFrom_92 : decode cX6_copyFrom 92 = .ok (.getfield 18, 3) := by decide +kernel
theorem dX6_copyFrom_95 : decode cX6_copyFrom 95 = .ok (.iconst 0, 1) := by decide +kernel
theorem dX6_copyFrom_96 : decode cX6_copyFrom 96 = .ok (.bipush 18, 2) := by decide +kernel
theorem dX6_copyFrom_98 : decode cX6_copyFrom 98 = .ok (.invokestatic 52, 3) := by decide +kernel
theorem dX6_copyFrom_101 : decode cX6_copyFrom 101 = .ok (.aload_n 1, 1) := by decide +kernel
theorem dX6_copyFrom_102 : decode cX6_copyFrom 102 = .ok (.getfield 21, 3) := by decide +kernel
theorem dX6_copyFrom_105 : decode cX6_copyFrom 105 = .ok (.iconst 0, 1) := by decide +kernel
theorem dX6_copyFrom_106 : decode cX6_copyFrom 106 = .ok (.aload_n 0, 1) := by decide +kernel
theorem dX6_copyFrom_107 : decode cX6_copyFrom 107 = .ok (.getfield 21, 3) := by decide +kernel
theorem dX6_copyFrom_110 : decode cX6_copyFrom 110 = .ok (.iconst 0, 1) := by decide +kernel
theorem dX6_copyFrom_111 : decode cX6_copyFrom 111 = .ok (.bipush 12, 2) := by decide +kernel
theorem dX6_copyFrom_113 : decode cX6_copyFrom 113 = .ok (.invokestatic 52, 3) := by decide +kernel
theorem dX6_copyFrom_116 : decode cX6_copyFrom 116 = .ok (.aload_n 1, 1) := by decide +kernel
theorem dX6_copyFrom_117 : decode cX6_copyFrom 117 = .ok (.getfield 24, 3) := by decide +kernel
theorem dX6_copyFrom_120 : decode cX6_copyFrom 120 = .ok (.iconst 0, 1) := by decide +kernel
theorem dX6_copyFrom_121 : decode cX6_copyFrom 121 = .ok (.aload_n 0, 1) := by decide +kernel
theorem dX6_copyFrom_122 : decode cX6_copyFrom 122 = .ok (.getfield 24, 3) := by decide +kernel
theorem dX6_copyFrom_125 : decode cX6_copyFrom 125 = .ok (.iconst 0, 1) := by decide +kernel
theorem dX6_copyFrom_126 : decode cX6_copyFrom 126 = .ok (.bipush 12, 2) := by decide +kernel
theorem dX6_copyFrom_128 : decode cX6_copyFrom 128 = .ok (.invokestatic 52, 3) := by decide +kernel
theorem dX6_copyFrom_131 : decode cX6_copyFrom 131 = .ok (.return_, 1) := by decide +kernel
set_option maxRecDepth 20000 in
theorem rX6_copyFrom {I : MI} {Q : MI → Prop} (H : (∀ I1 : MI, I1 = up2 I 24 0 (I 4 0) → ∀ I2 : MI, I2 = up2 I1 24 1 (I1 4 1) → ∀ I3 : MI, I3 = up2 I2 24 2 (I2 4 2) → ∀ I4 : MI, I4 = up2 I3 24 3 (I3 4 3) → ∀ I5 : MI, I5 = up2 I4 24 4 (I4 4 4) → ∀ I6 : MI, I6 = up2 I5 24 5 (I5 4 5) → ∀ I7 : MI, I7 = up2 I6 24 6 (I6 4 6) → ∀ I8 : MI, I8 = upA I7 25 (va_cpy (I7 5) (I7 25) 0 0 18) → ∀ I9 : MI, I9 = upA I8 26 (va_cpy (I8 6) (I8 26) 0 0 18) → ∀ I10 : MI, I10 = upA I9 27 (va_cpy (I9 7) (I9 27) 0 0 18) → ∀ I11 : MI, I11 = upA I10 28 (va_cpy (I10 8) (I10 28) 0 0 12) → ∀ I12 : MI, I12 = upA I11 29 (va_cpy (I11 9) (I11 29) 0 0 12) → Q I12)) : Wv mX6_copyFrom [.ref 24, .ref 4] I Q := by
  show WP mX6_copyFrom 286 Rf0 0 [some (.ref 24), some (.ref 4)] [] I (qv Q)
  refine w_aload_n dX6_copyFrom_0 rfl rfl ?_
  refine w_aload_n dX6_copyFrom_1 rfl rfl ?_
  refine w_getI dX6_copyFrom_2 fl_6_30 okC6 kd_4 (by decide) (by decide) rfl ?_
  refine w_putI dX6_copyFrom_5 fl_6_30 okC6 kd_24 (by decide) (by decide) rfl rfl rfl (w_up fun I1 hI => ?_)
  replace H := H I1 hI
  refine w_aload_n dX6_copyFrom_8 rfl rfl ?_
  refine w_aload_n dX6_copyFrom_9 rfl rfl ?_
  refine w_getI dX6_copyFrom_10 fl_6_34 okC6 kd_4 (by decide) (by decide) rfl ?_
  refine w_putI dX6_copyFrom_13 fl_6_34 okC6 kd_24 (by decide) (by decide) rfl rfl rfl (w_up fun I2 hI => ?_)
  replace H := H I2 hI
  refine w_aload_n dX6_copyFrom_16 rfl rfl ?_
  refine w_aload_n dX6_copyFrom_17 rfl rfl ?_
  refine w_getI dX6_copyFrom_18 fl_6_37 okC6 kd_4 (by decide) (by decide) rfl ?_
  refine w_putI dX6_copyFrom_21 fl_6_37 okC6 kd_24 (by decide) (by decide) rfl rfl rfl (w_up fun I3 hI => ?_)
  replace H := H I3 hI
  refine w_aload_n dX6_copyFrom_24 rfl rfl ?_
  refine w_aload_n dX6_copyFrom_25 rfl rfl ?_
  refine w_getI dX6_copyFrom_26 fl_6_40 okC6 kd_4 (by decide) (by decide) rfl ?_
  refine w_putI dX6_copyFrom_29 fl_6_40 okC6 kd_24 (by decide) (by decide) rfl rfl rfl (w_up fun I4 hI => ?_)
  replace H := H I4 hI
  refine w_aload_n dX6_copyFrom_32 rfl rfl ?_
  refine w_aload_n dX6_copyFrom_33 rfl rfl ?_
  refine w_getI dX6_copyFrom_34 fl_6_43 okC6 kd_4 (by decide) (by decide) rfl ?_
  refine w_putI dX6_copyFrom_37 fl_6_43 okC6 kd_24 (by decide) (by decide) rfl rfl rfl (w_up fun I5 hI => ?_)
  replace H := H I5 hI
  refine w_aload_n dX6_copyFrom_40 rfl rfl ?_
  refine w_aload_n dX6_copyFrom_41 rfl rfl ?_
  refine w_getI dX6_copyFrom_42 fl_6_46 okC6 kd_4 (by decide) (by decide) rfl ?_
  refine w_putI dX6_copyFrom_45 fl_6_46 okC6 kd_24 (by decide) (by decide) rfl rfl rfl (w_up fun I6 hI => ?_)
  replace H := H I6 hI
  refine w_aload_n dX6_copyFrom_48 rfl rfl ?_
  refine w_aload_n dX6_copyFrom_49 rfl rfl ?_
  refine w_getI dX6_copyFrom_50 fl_6_49 okC6 kd_4 (by decide) (by decide) rfl ?_
  refine w_putI dX6_copyFrom_53 fl_6_49 okC6 kd_24 (by decide) (by decide) rfl rfl rfl (w_up fun I7 hI => ?_)
  replace H := H I7 hI
  refine w_aload_n dX6_copyFrom_56 rfl rfl ?_
  refine w_getR dX6_copyFrom_57 fl_6_9 okC6 kd_4 (by decide) (by decide) rfl rf_4_7 ?_
  refine w_iconst (v := 0) dX6_copyFrom_60 (by decide) ?_
  refine w_aload_n dX6_copyFrom_61 rfl rfl ?_
  refine w_getR dX6_copyFrom_62 fl_6_9 okC6 kd_24 (by decide) (by decide) rfl rf_24_7 ?_
  refine w_iconst (v := 0) dX6_copyFrom_65 (by decide) ?_
  refine w_bipush (v := 18) dX6_copyFrom_66 (by decide) ?_
  refine w_copy dX6_copyFrom_68 ml_6_52 cpN cpS cpI kd_5 kd_25 (by decide) (by decide) (by decide) (by decide) (by decide) (by decide) (by decide) (by decide) (Nat.le_of_ble_eq_true rfl) (w_up fun I8 hI => ?_)
  replace H := H I8 hI
  refine w_aload_n dX6_copyFrom_71 rfl rfl ?_
  refine w_getR dX6_copyFrom_72 fl_6_15 okC6 kd_4 (by decide) (by decide) rfl rf_4_8 ?_
  refine w_iconst (v := 0) dX6_copyFrom_75 (by decide) ?_
  refine w_aload_n dX6_copyFrom_76 rfl rfl ?_
  refine w_getR dX6_copyFrom_77 fl_6_15 okC6 kd_24 (by decide) (by decide) rfl rf_24_8 ?_
  refine w_iconst (v := 0) dX6_copyFrom_80 (by decide) ?_
  refine w_bipush (v := 18) dX6_copyFrom_81 (by decide) ?_
  refine w_copy dX6_copyFrom_83 ml_6_52 cpN cpS cpI kd_6 kd_26 (by decide) (by decide) (by decide) (by decide) (by decide) (by decide) (by decide) (by decide) (Nat.le_of_ble_eq_true rfl) (w_up fun I9 hI => ?_)
  replace H := H I9 hI
  refine w_aload_n dX6_copyFrom_86 rfl rfl ?_
  refine w_getR dX6_copyFrom_87 fl_6_18 okC6 kd_4 (by decide) (by decide) rfl rf_4_9 ?_
  refine w_iconst (v := 0) dX6_copyFrom_90 (by decide) ?_
  refine w_aload_n dX6_copyFrom_91 rfl rfl ?_
  refine w_getR dX6_copyFrom_92 fl_6_18 okC6 kd_24 (by decide) (by decide) rfl rf_24_9 ?_
  refine w_iconst (v := 0) dX6_copyFrom_95 (by decide) ?_
  refine w_bipush (v := 18) dX6_copyFrom_96 (by decide) ?_
  refine w_copy dX6_copyFrom_98 ml_6_52 cpN cpS cpI kd_7 kd_27 (by decide) (by decide) (by decide) (by decide) (by decide) (by decide) (by decide) (by decide) (Nat.le_of_ble_eq_true rfl) (w_up fun I10 hI => ?_)
  replace H := H I10 hI
  refine w_aload_n dX6_copyFrom_101 rfl rfl ?_
  refine w_getR dX6_copyFrom_102 fl_6_21 okC6 kd_4 (by decide) (by decide) rfl rf_4_10 ?_
  refine w_iconst (v := 0) dX6_copyFrom_105 (by decide) ?_
  refine w_aload_n dX6_copyFrom_106 rfl rfl ?_
  refine w_getR dX6_copyFrom_107 fl_6_21 okC6 kd_24 (by decide) (by decide) rfl rf_24_10 ?_
  refine w_iconst (v := 0) dX6_copyFrom_110 (by decide) ?_
  refine w_bipush (v := 12) dX6_copyFrom_111 (by decide) ?_
  refine w_copy dX6_copyFrom_113 ml_6_52 cpN cpS cpI kd_8 kd_28 (by decide) (by decide) (by decide) (by decide) (by decide) (by decide) (by decide) (by decide) (Nat.le_of_ble_eq_true rfl) (w_up fun I11 hI => ?_)
  replace H := H I11 hI
  refine w_aload_n dX6_copyFrom_116 rfl rfl ?_
  refine w_getR dX6_copyFrom_117 fl_6_24 okC6 kd_4 (by decide) (by decide) rfl rf_4_11 ?_
  refine w_iconst (v := 0) dX6_copyFrom_120 (by decide) ?_
  refine w_aload_n dX6_copyFrom_121 rfl rfl ?_
  refine w_getR dX6_copyFrom_122 fl_6_24 okC6 kd_24 (by decide) (by decide) rfl rf_24_11 ?_
  refine w_iconst (v := 0) dX6_copyFrom_125 (by decide) ?_
  refine w_bipush (v := 12) dX6_copyFrom_126 (by decide) ?_
  refine w_copy dX6_copyFrom_128 ml_6_52 cpN cpS cpI kd_9 kd_29 (by decide) (by decide) (by decide) (by decide) (by decide) (by decide) (by decide) (by decide) (Nat.le_of_ble_eq_true rfl) (w_up fun I12 hI => ?_)
  replace H := H I12 hI
  exact w_vret dX6_copyFrom_131 rfl ⟨rfl, H⟩
theorem dX6_joins_0 : decode cX6_joins 0 = .ok (.iconst 0, 1) := by decide +kernel
theorem dX6_joins_1 : decode cX6_joins 1 = .ok (.istore_n 3, 1) := by decide +kernel
theorem dX6_joins_2 : decode cX6_joins 2 = .ok (.iload_n 3, 1) := by decide +kernel
theorem dX6_joins_3 : decode cX6_joins 3 = .ok (.aload_n 0, 1) := by decide +kernel
theorem dX6_joins_4 : decode cX6_joins 4 = .ok (.getfield 34, 3) := by decide +kernel
theorem dX6_joins_7 : decode cX6_joins 7 = .ok (.if_icmp .ge 75, 3) := by decide +kernel
theorem dX6_joins_10 : decode cX6_joins 10 = .ok (.aload_n 0, 1) := by decide +kernel
theorem dX6_joins_11 : decode cX6_joins 11 = .ok (.getfield 9, 3) := by decide +kernel
theorem dX6_joins_14 : decode cX6_joins 14 = .ok (.iload_n 3, 1) := by decide +kernel
theorem dX6_joins_15 : decode cX6_joins 15 = .ok (.iaload, 1) := by decide +kernel
theorem dX6_joins_16 : decode cX6_joins 16 = .ok (.iload_n 1, 1) := by decide +kernel
theorem dX6_joins_17 : decode cX6_joins 17 = .ok (.if_icmp .ne 17, 3) := by decide +kernel
theorem dX6_joins_20 : decode cX6_joins 20 = .ok (.aload_n 0, 1) := by decide +kernel
theorem dX6_joins_21 : decode cX6_joins 21 = .ok (.getfield 15, 3) := by decide +kernel
theorem dX6_joins_24 : decode cX6_joins 24 = .ok (.iload_n 3, 1) := by decide +kernel
theorem dX6_joins_25 : decode cX6_joins 25 = .ok (.iaload, 1) := by decide +kernel
theorem dX6_joins_26 : decode cX6_joins 26 = .ok (.iload_n 2, 1) := by decide +kernel
theorem dX6_joins_27 : decode cX6_joins 27 = .ok (.if_icmp .ne 7, 3) := by decide +kernel
theorem dX6_joins_30 : decode cX6_joins 30 = .ok (.iconst 1, 1) := by decide +kernel
theorem dX6_joins_31 : decode cX6_joins 31 = .ok (.goto 4, 3) := by decide +kernel
theorem dX6_joins_34 : decode cX6_joins 34 = .ok (.iconst 0, 1) := by decide +kernel
theorem dX6_joins_35 : decode cX6_joins 35 = .ok (.istore 4, 2) := by decide +kernel
theorem dX6_joins_37 : decode cX6_joins 37 = .ok (.aload_n 0, 1) := by decide +kernel
theorem dX6_joins_38 : decode cX6_joins 38 = .ok (.getfield 9, 3) := by decide +kernel
theorem dX6_joins_41 : decode cX6_joins 41 = .ok (.iload_n 3, 1) := by decide +kernel
theorem dX6_joins_42 : decode cX6_joins 42 = .ok (.iaload, 1) := by decide +kernel
theorem dX6_joins_43 : decode cX6_joins 43 = .ok (.iload_n 2, 1) := by decide +kernel
theorem dX6_joins_44 : decode cX6_joins 44 = .ok (.if_icmp .ne 17, 3) := by decide +kernel
theorem dX6_joins_47 : decode cX6_joins 47 = .ok (.aload_n 0, 1) := by decide +kernel
theorem dX6_joins_48 : decode cX6_joins 48 = .ok (.getfield 15, 3) := by decide +kernel
theorem dX6_joins_51 : decode cX6_joins 51 = .ok (.iload_n 3, 1) := by decide +kernel
theorem dX6_joins_52 : decode cX6_joins 52 = .ok (.iaload, 1) := by decide +kernel
theorem dX6_joins_53 : decode cX6_joins 53 = .ok (.iload_n 1, 1) := by decide +kernel
theorem dX6_joins_54 : decode cX6_joins 54 = .ok (.if_icmp .ne 7, 3) := by decide +kernel
theorem dX6_joins_57 : decode cX6_joins 57 = .ok (.iconst 1, 1) := by decide +kernel
theorem dX6_joins_58 : decode cX6_joins 58 = .ok (.goto 4, 3) := by decide +kernel
theorem dX6_joins_61 : decode cX6_joins 61 = .ok (.iconst 0, 1) := by decide +kernel
theorem dX6_joins_62 : decode cX6_joins 62 = .ok (.istore 5, 2) := by decide +kernel
theorem dX6_joins_64 : decode cX6_joins 64 = .ok (.iload 4, 2) := by decide +kernel
theorem dX6_joins_66 : decode cX6_joins 66 = .ok (.ifCond .ne 8, 3) := by decide +kernel
theorem dX6_joins_69 : decode cX6_joins 69 = .ok (.iload 5, 2) := by decide +kernel
theorem dX6_joins_71 : decode cX6_joins 71 = .ok (.ifCond .eq 5, 3) := by decide +kernel
theorem dX6_joins_74 : decode cX6_joins 74 = .ok (.iconst 1, 1) := by decide +kernel
theorem dX6_joins_75 : decode cX6_joins 75 = .ok (.ireturn, 1) := by decide +kernel
theorem dX6_joins_76 : decode cX6_joins 76 = .ok (.iinc 3 1, 3) := by decide +kernel
theorem dX6_joins_79 : decode cX6_joins 79 = .ok (.goto (-77), 3) := by decide +kernel
theorem dX6_joins_82 : decode cX6_joins 82 = .ok (.iconst 0, 1) := by decide +kernel
theorem dX6_joins_83 : decode cX6_joins 83 = .ok (.ireturn, 1) := by decide +kernel
abbrev LX6_joins_2 (l1 l2 l3 : Int32) (I : MI) (Q : Int32 → MI → Prop) : Prop := WP mX6_joins 286 Rf0 2 [some (.ref 4), some (.int l1), some (.int l2), some (.int l3), none, none] [] I (qi Q)
abbrev LX6_joins_34 (l1 l2 l3 : Int32) (I : MI) (Q : Int32 → MI → Prop) : Prop := WP mX6_joins 286 Rf0 34 [some (.ref 4), some (.int l1), some (.int l2), some (.int l3), none, none] [] I (qi Q)
abbrev LX6_joins_35 (l1 l2 l3 t0 : Int32) (I : MI) (Q : Int32 → MI → Prop) : Prop := WP mX6_joins 286 Rf0 35 [some (.ref 4), some (.int l1), some (.int l2), some (.int l3), none, none] [.int t0] I (qi Q)
abbrev LX6_joins_61 (l1 l2 l3 l4 : Int32) (I : MI) (Q : Int32 → MI → Prop) : Prop := WP mX6_joins 286 Rf0 61 [some (.ref 4), some (.int l1), some (.int l2), some (.int l3), some (.int l4), none] [] I (qi Q)
abbrev LX6_joins_62 (l1 l2 l3 l4 t0 : Int32) (I : MI) (Q : Int32 → MI → Prop) : Prop := WP mX6_joins 286 Rf0 62 [some (.ref 4), some (.int l1), some (.int l2), some (.int l3), some (.int l4), none] [.int t0] I (qi Q)
set_option maxRecDepth 20000 in
theorem rX6_joins_2 {l1 l2 l3 : Int32} {I : MI} {Q : Int32 → MI → Prop} (H : (((I 4 1) ≤ l3 → (Q 0 I)) ∧ (¬ (I 4 1) ≤ l3 → (vp_in l3 18 ∧ (¬ (I 5 l3.toNatClampNeg) = l1 → (LX6_joins_34 l1 l2 l3 I Q)) ∧ ((I 5 l3.toNatClampNeg) = l1 → (vp_in l3 18 ∧ (¬ (I 6 l3.toNatClampNeg) = l2 → (LX6_joins_34 l1 l2 l3 I Q)) ∧ ((I 6 l3.toNatClampNeg) = l2 → (LX6_joins_35 l1 l2 l3 1 I Q)))))))) : LX6_joins_2 l1 l2 l3 I Q := by
  show WP mX6_joins 286 Rf0 2 [some (.ref 4), some (.int l1), some (.int l2), some (.int l3), none, none] [] I (qi Q)
  refine w_iload_n dX6_joins_2 rfl rfl ?_
  refine w_aload_n dX6_joins_3 rfl rfl ?_
  refine w_getI dX6_joins_4 fl_6_34 okC6 kd_4 (by decide) (by decide) rfl ?_
  refine w_icmp_ge (t := 82) dX6_joins_7 (by decide) (fun h => ?_) (fun h => ?_)
  · replace H := H.1 h
    refine w_iconst (v := 0) dX6_joins_82 (by decide) ?_
    exact w_zret dX6_joins_83 rfl rfl ⟨_, rfl, H⟩
  · replace H := H.2 h
    refine w_aload_n dX6_joins_10 rfl rfl ?_
    refine w_getR dX6_joins_11 fl_6_9 okC6 kd_4 (by decide) (by decide) rfl rf_4_7 ?_
    refine w_iload_n dX6_joins_14 rfl rfl ?_
    refine w_iald dX6_joins_15 kd_5 (by decide) H.1 ?_
    replace H := H.2
    refine w_iload_n dX6_joins_16 rfl rfl ?_
    refine w_icmp_ne (t := 34) dX6_joins_17 (by decide) (fun h => ?_) (fun h => ?_)
    · replace H := H.1 h
      skip
      exact H
    · replace H := H.2 h
      refine w_aload_n dX6_joins_20 rfl rfl ?_
      refine w_getR dX6_joins_21 fl_6_15 okC6 kd_4 (by decide) (by decide) rfl rf_4_8 ?_
      refine w_iload_n dX6_joins_24 rfl rfl ?_
      refine w_iald dX6_joins_25 kd_6 (by decide) H.1 ?_
      replace H := H.2
      refine w_iload_n dX6_joins_26 rfl rfl ?_
      refine w_icmp_ne (t := 34) dX6_joins_27 (by decide) (fun h => ?_) (fun h => ?_)
      · replace H := H.1 h
        skip
        exact H
      · replace H := H.2 h
        refine w_iconst (v := 1) dX6_joins_30 (by decide) ?_
        refine w_goto (t := 35) dX6_joins_31 (by decide) ?_
        skip
        exact H
set_option maxRecDepth 20000 in
theorem rX6_joins_34 {l1 l2 l3 : Int32} {I : MI} {Q : Int32 → MI → Prop} (H : (LX6_joins_35 l1 l2 l3 0 I Q)) : LX6_joins_34 l1 l2 l3 I Q := by
  show WP mX6_joins 286 Rf0 34 [some (.ref 4), some (.int l1), some (.int l2), some (.int l3), none, none] [] I (qi Q)
  refine w_iconst (v := 0) dX6_joins_34 (by decide) ?_
  skip
  exact H
set_option maxRecDepth 20000 in
theorem rX6_joins_35 {l1 l2 l3 t0 : Int32} {I : MI} {Q : Int32 → MI → Prop} (H : (vp_in l3 18 ∧ (¬ (I 5 l3.toNatClampNeg) = l2 → (LX6_joins_61 l1 l2 l3 t0 I Q)) ∧ ((I 5 l3.toNatClampNeg) = l2 → (vp_in l3 18 ∧ (¬ (I 6 l3.toNatClampNeg) = l1 → (LX6_joins_61 l1 l2 l3 t0 I Q)) ∧ ((I 6 l3.toNatClampNeg) = l1 → (LX6_joins_62 l1 l2 l3 t0 1 I Q)))))) : LX6_joins_35 l1 l2 l3 t0 I Q := by
  show WP mX6_joins 286 Rf0 35 [some (.ref 4), some (.int l1), some (.int l2), some (.int l3), none, none] [.int t0] I (qi Q)
  refine w_istore (ls' := [some (.ref 4), some (.int l1), some (.int l2), some (.int l3), some (.int t0), none]) dX6_joins_35 (by decide) rfl rfl ?_
  refine w_aload_n dX6_joins_37 rfl rfl ?_
  refine w_getR dX6_joins_38 fl_6_9 okC6 kd_4 (by decide) (by decide) rfl rf_4_7 ?_
  refine w_iload_n dX6_joins_41 rfl rfl ?_
  refine w_iald dX6_joins_42 kd_5 (by decide) H.1 ?_
  replace H := H.2
  refine w_iload_n dX6_joins_43 rfl rfl ?_
  refine w_icmp_ne (t := 61) dX6_joins_44 (by decide) (fun h => ?_) (fun h => ?_)
  · replace H := H.1 h
    skip
    exact H
  · replace H := H.2 h
    refine w_aload_n dX6_joins_47 rfl rfl ?_
    refine w_getR dX6_joins_48 fl_6_15 okC6 kd_4 (by decide) (by decide) rfl rf_4_8 ?_
    refine w_iload_n dX6_joins_51 rfl rfl ?_
    refine w_iald dX6_joins_52 kd_6 (by decide) H.1 ?_
    replace H := H.2
    refine w_iload_n dX6_joins_53 rfl rfl ?_
    refine w_icmp_ne (t := 61) dX6_joins_54 (by decide) (fun h => ?_) (fun h => ?_)
    · replace H := H.1 h
      skip
      exact H
    · replace H := H.2 h
      refine w_iconst (v := 1) dX6_joins_57 (by decide) ?_
      refine w_goto (t := 62) dX6_joins_58 (by decide) ?_
      skip
      exact H
set_option maxRecDepth 20000 in
theorem rX6_joins_61 {l1 l2 l3 l4 : Int32} {I : MI} {Q : Int32 → MI → Prop} (H : (LX6_joins_62 l1 l2 l3 l4 0 I Q)) : LX6_joins_61 l1 l2 l3 l4 I Q := by
  show WP mX6_joins 286 Rf0 61 [some (.ref 4), some (.int l1), some (.int l2), some (.int l3), some (.int l4), none] [] I (qi Q)
  refine w_iconst (v := 0) dX6_joins_61 (by decide) ?_
  skip
  exact H
set_option maxRecDepth 20000 in
theorem rX6_joins_62 {l1 l2 l3 l4 t0 : Int32} {I : MI} {Q : Int32 → MI → Prop} (H : ((¬ l4 = 0 → (Q 1 I)) ∧ (l4 = 0 → ((t0 = 0 → (LX6_joins_2 l1 l2 (l3 + 1) I Q)) ∧ (¬ t0 = 0 → (Q 1 I)))))) : LX6_joins_62 l1 l2 l3 l4 t0 I Q := by
  show WP mX6_joins 286 Rf0 62 [some (.ref 4), some (.int l1), some (.int l2), some (.int l3), some (.int l4), none] [.int t0] I (qi Q)
  refine w_istore (ls' := [some (.ref 4), some (.int l1), some (.int l2), some (.int l3), some (.int l4), some (.int t0)]) dX6_joins_62 (by decide) rfl rfl ?_
  refine w_iload dX6_joins_64 rfl ?_
  refine w_if_ne (t := 74) dX6_joins_66 (by decide) (fun h => ?_) (fun h => ?_)
  · replace H := H.1 h
    refine w_iconst (v := 1) dX6_joins_74 (by decide) ?_
    exact w_zret dX6_joins_75 rfl rfl ⟨_, rfl, H⟩
  · replace H := H.2 h
    refine w_iload dX6_joins_69 rfl ?_
    refine w_if_eq (t := 76) dX6_joins_71 (by decide) (fun h => ?_) (fun h => ?_)
    · replace H := H.1 h
      refine w_iinc (v := l3 + 1) (ls' := [some (.ref 4), some (.int l1), some (.int l2), some (.int (l3 + 1)), some (.int l4), some (.int t0)]) dX6_joins_76 rfl rfl (by decide) rfl rfl ?_
      refine w_goto (t := 2) dX6_joins_79 (by decide) ?_
      refine w_less (ls' := [some (.ref 4), some (.int l1), some (.int l2), some (.int (l3 + 1)), none, none]) (by simp [lsub]) ?_
      exact H
    · replace H := H.2 h
      refine w_iconst (v := 1) dX6_joins_74 (by decide) ?_
      exact w_zret dX6_joins_75 rfl rfl ⟨_, rfl, H⟩
set_option maxRecDepth 20000 in
theorem rX6_joins {a1 a2 : Int32} {I : MI} {Q : Int32 → MI → Prop} (H : (LX6_joins_2 a1 a2 0 I Q)) : Wi mX6_joins [.ref 4, .int a1, .int a2] I Q := by
  show WP mX6_joins 286 Rf0 0 [some (.ref 4), some (.int a1), some (.int a2), none, none, none] [] I (qi Q)
  refine w_iconst (v := 0) dX6_joins_0 (by decide) ?_
  refine w_istore_n (ls' := [some (.ref 4), some (.int a1), some (.int a2), some (.int 0), none, none]) dX6_joins_1 rfl (by decide) rfl rfl ?_
  skip
  exact H
theorem dX7_clear_0 : decode cX7_clear 0 = .ok (.aload_n 0, 1) := by decide +kernel
theorem dX7_clear_1 : decode cX7_clear 1 = .ok (.iconst 0, 1) := by decide +kernel
theorem dX7_clear_2 : decode cX7_clear 2 = .ok (.putfield 15, 3) := by decide +kernel
theorem dX7_clear_5 : decode cX7_clear 5 = .ok (.return_, 1) := by decide +kernel
set_option maxRecDepth 20000 in
theorem rX7_clear_48 {I : MI} {Q : MI → Prop} (H : (∀ I1 : MI, I1 = up2 I 48 1 0 → Q I1)) : Wv mX7_clear [.ref 48] I Q := by
  show WP mX7_clear 286 Rf0 0 [some (.ref 48)] [] I (qv Q)
  refine w_aload_n dX7_clear_0 rfl rfl ?_
  refine w_iconst (v := 0) dX7_clear_1 (by decide) ?_
  refine w_putI dX7_clear_2 fl_7_15 okC7 kd_48 (by decide) (by decide) rfl rfl rfl (w_up fun I1 hI => ?_)
  replace H := H I1 hI
  exact w_vret dX7_clear_5 rfl ⟨rfl, H⟩
theorem dX7_add_0 : decode cX7_add 0 = .ok (.aload_n 0, 1) := by decide +kernel
theorem dX7_add_1 : decode cX7_add 1 = .ok (.getfield 15, 3) := by decide +kernel
theorem dX7_add_4 : decode cX7_add 4 = .ok (.bipush 10, 2) := by decide +kernel
theorem dX7_add_6 : decode cX7_add 6 = .ok (.if_icmp .ge 23, 3) := by decide +kernel
theorem dX7_add_9 : decode cX7_add 9 = .ok (.aload_n 0, 1) := by decide +kernel
theorem dX7_add_10 : decode cX7_add 10 = .ok (.getfield 9, 3) := by decide +kernel
theorem dX7_add_13 : decode cX7_add 13 = .ok (.aload_n 0, 1) := by decide +kernel
theorem dX7_add_14 : decode cX7_add 14 = .ok (.getfield 15, 3) := by decide +kernel
theorem dX7_add_17 : decode cX7_add 17 = .ok (.iload_n 1, 1) := by decide +kernel
theorem dX7_add_18 : decode cX7_add 18 = .ok (.iastore, 1) := by decide +kernel
theorem dX7_add_19 : decode cX7_add 19 = .ok (.aload_n 0, 1) := by decide +kernel
theorem dX7_add_20 : decode cX7_add 20 = .ok (.dup, 1) := by decide +kernel
theorem dX7_add_21 : decode cX7_add 21 = .ok (.getfield 15, 3) := by decide +kernel
theorem dX7_add_24 : decode cX7_add 24 = .ok (.iconst 1, 1) := by decide +kernel
theorem dX7_add_25 : decode cX7_add 25 = .ok (.iadd, 1) := by decide +kernel
theorem dX7_add_26 : decode cX7_add 26 = .ok (.putfield 15, 3) := by decide +kernel
theorem dX7_add_29 : decode cX7_add 29 = .ok (.return_, 1) := by decide +kernel
set_option maxRecDepth 20000 in
theorem rX7_add_48 {a1 : Int32} {I : MI} {Q : MI → Prop} (H : ((10 ≤ (I 48 1) → (Q I)) ∧ (¬ 10 ≤ (I 48 1) → (vp_in (I 48 1) 10 ∧ ∀ I1 : MI, I1 = up2 I 49 (I 48 1).toNatClampNeg a1 → ∀ I2 : MI, I2 = up2 I1 48 1 ((I1 48 1) + 1) → Q I2)))) : Wv mX7_add [.ref 48, .int a1] I Q := by
  show WP mX7_add 286 Rf0 0 [some (.ref 48), some (.int a1)] [] I (qv Q)
  refine w_aload_n dX7_add_0 rfl rfl ?_
  refine w_getI dX7_add_1 fl_7_15 okC7 kd_48 (by decide) (by decide) rfl ?_
  refine w_bipush (v := 10) dX7_add_4 (by decide) ?_
  refine w_icmp_ge (t := 29) dX7_add_6 (by decide) (fun h => ?_) (fun h => ?_)
  · replace H := H.1 h
    exact w_vret dX7_add_29 rfl ⟨rfl, H⟩
  · replace H := H.2 h
    refine w_aload_n dX7_add_9 rfl rfl ?_
    refine w_getR dX7_add_10 fl_7_9 okC7 kd_48 (by decide) (by decide) rfl rf_48_0 ?_
    refine w_aload_n dX7_add_13 rfl rfl ?_
    refine w_getI dX7_add_14 fl_7_15 okC7 kd_48 (by decide) (by decide) rfl ?_
    refine w_iload_n dX7_add_17 rfl rfl ?_
    refine w_iast dX7_add_18 kd_49 (by decide) H.1 (w_up fun I1 hI => ?_)
    replace H := H.2 I1 hI
    refine w_aload_n dX7_add_19 rfl rfl ?_
    refine w_dup dX7_add_20 rfl ?_
    refine w_getI dX7_add_21 fl_7_15 okC7 kd_48 (by decide) (by decide) rfl ?_
    refine w_iconst (v := 1) dX7_add_24 (by decide) ?_
    refine w_iadd dX7_add_25 ?_
    refine w_putI dX7_add_26 fl_7_15 okC7 kd_48 (by decide) (by decide) rfl rfl rfl (w_up fun I2 hI => ?_)
    replace H := H I2 hI
    exact w_vret dX7_add_29 rfl ⟨rfl, H⟩
theorem dX7_stopAt_0 : decode cX7_stopAt 0 = .ok (.iload_n 1, 1) := by decide +kernel
theorem dX7_stopAt_1 : decode cX7_stopAt 1 = .ok (.ifCond .lt 20, 3) := by decide +kernel
theorem dX7_stopAt_4 : decode cX7_stopAt 4 = .ok (.iload_n 1, 1) := by decide +kernel
theorem dX7_stopAt_5 : decode cX7_stopAt 5 = .ok (.aload_n 0, 1) := by decide +kernel
theorem dX7_stopAt_6 : decode cX7_stopAt 6 = .ok (.getfield 15, 3) := by decide +kernel
theorem dX7_stopAt_9 : decode cX7_stopAt 9 = .ok (.if_icmp .ge 12, 3) := by decide +kernel
theorem dX7_stopAt_12 : decode cX7_stopAt 12 = .ok (.aload_n 0, 1) := by decide +kernel
theorem dX7_stopAt_13 : decode cX7_stopAt 13 = .ok (.getfield 9, 3) := by decide +kernel
theorem dX7_stopAt_16 : decode cX7_stopAt 16 = .ok (.iload_n 1, 1) := by decide +kernel
theorem dX7_stopAt_17 : decode cX7_stopAt 17 = .ok (.iaload, 1) := by decide +kernel
theorem dX7_stopAt_18 : decode cX7_stopAt 18 = .ok (.goto 5, 3) := by decide +kernel
theorem dX7_stopAt_21 : decode cX7_stopAt 21 = .ok (.bipush (-2), 2) := by decide +kernel
theorem dX7_stopAt_23 : decode cX7_stopAt 23 = .ok (.ireturn, 1) := by decide +kernel
set_option maxRecDepth 20000 in
theorem rX7_stopAt_48 {a1 : Int32} {I : MI} {Q : Int32 → MI → Prop} (H : ((a1 < 0 → (Q (-2) I)) ∧ (¬ a1 < 0 → (((I 48 1) ≤ a1 → (Q (-2) I)) ∧ (¬ (I 48 1) ≤ a1 → (vp_in a1 10 ∧ Q (I 49 a1.toNatClampNeg) I)))))) : Wi mX7_stopAt [.ref 48, .int a1] I Q := by
  show WP mX7_stopAt 286 Rf0 0 [some (.ref 48), some (.int a1)] [] I (qi Q)
  refine w_iload_n dX7_stopAt_0 rfl rfl ?_
  refine w_if_lt (t := 21) dX7_stopAt_1 (by decide) (fun h => ?_) (fun h => ?_)
  · replace H := H.1 h
    refine w_bipush (v := (-2)) dX7_stopAt_21 (by decide) ?_
    exact w_iret dX7_stopAt_23 rfl ⟨_, rfl, H⟩
  · replace H := H.2 h
    refine w_iload_n dX7_stopAt_4 rfl rfl ?_
    refine w_aload_n dX7_stopAt_5 rfl rfl ?_
    refine w_getI dX7_stopAt_6 fl_7_15 okC7 kd_48 (by decide) (by decide) rfl ?_
    refine w_icmp_ge (t := 21) dX7_stopAt_9 (by decide) (fun h => ?_) (fun h => ?_)
    · replace H := H.1 h
      refine w_bipush (v := (-2)) dX7_stopAt_21 (by decide) ?_
      exact w_iret dX7_stopAt_23 rfl ⟨_, rfl, H⟩
    · replace H := H.2 h
      refine w_aload_n dX7_stopAt_12 rfl rfl ?_
      refine w_getR dX7_stopAt_13 fl_7_9 okC7 kd_48 (by decide) (by decide) rfl rf_48_0 ?_
      refine w_iload_n dX7_stopAt_16 rfl rfl ?_
      refine w_iald dX7_stopAt_17 kd_49 (by decide) H.1 ?_
      replace H := H.2
      refine w_goto (t := 23) dX7_stopAt_18 (by decide) ?_
      exact w_iret dX7_stopAt_23 rfl ⟨_, rfl, H⟩
set_option maxRecDepth 20000 in
theorem rX7_clear_51 {I : MI} {Q : MI → Prop} (H : (∀ I1 : MI, I1 = up2 I 51 1 0 → Q I1)) : Wv mX7_clear [.ref 51] I Q := by
  show WP mX7_clear 286 Rf0 0 [some (.ref 51)] [] I (qv Q)
  refine w_aload_n dX7_clear_0 rfl rfl ?_
  refine w_iconst (v := 0) dX7_clear_1 (by decide) ?_
  refine w_putI dX7_clear_2 fl_7_15 okC7 kd_51 (by decide) (by decide) rfl rfl rfl (w_up fun I1 hI => ?_)
  replace H := H I1 hI
  exact w_vret dX7_clear_5 rfl ⟨rfl, H⟩
set_option maxRecDepth 20000 in
theorem rX7_add_51 {a1 : Int32} {I : MI} {Q : MI → Prop} (H : ((10 ≤ (I 51 1) → (Q I)) ∧ (¬ 10 ≤ (I 51 1) → (vp_in (I 51 1) 10 ∧ ∀ I1 : MI, I1 = up2 I 52 (I 51 1).toNatClampNeg a1 → ∀ I2 : MI, I2 = up2 I1 51 1 ((I1 51 1) + 1) → Q I2)))) : Wv mX7_add [.ref 51, .int a1] I Q := by
  show WP mX7_add 286 Rf0 0 [some (.ref 51), some (.int a1)] [] I (qv Q)
  refine w_aload_n dX7_add_0 rfl rfl ?_
  refine w_getI dX7_add_1 fl_7_15 okC7 kd_51 (by decide) (by decide) rfl ?_
  refine w_bipush (v := 10) dX7_add_4 (by decide) ?_
  refine w_icmp_ge (t := 29) dX7_add_6 (by decide) (fun h => ?_) (fun h => ?_)
  · replace H := H.1 h
    exact w_vret dX7_add_29 rfl ⟨rfl, H⟩
  · replace H := H.2 h
    refine w_aload_n dX7_add_9 rfl rfl ?_
    refine w_getR dX7_add_10 fl_7_9 okC7 kd_51 (by decide) (by decide) rfl rf_51_0 ?_
    refine w_aload_n dX7_add_13 rfl rfl ?_
    refine w_getI dX7_add_14 fl_7_15 okC7 kd_51 (by decide) (by decide) rfl ?_
    refine w_iload_n dX7_add_17 rfl rfl ?_
    refine w_iast dX7_add_18 kd_52 (by decide) H.1 (w_up fun I1 hI => ?_)
    replace H := H.2 I1 hI
    refine w_aload_n dX7_add_19 rfl rfl ?_
    refine w_dup dX7_add_20 rfl ?_
    refine w_getI dX7_add_21 fl_7_15 okC7 kd_51 (by decide) (by decide) rfl ?_
    refine w_iconst (v := 1) dX7_add_24 (by decide) ?_
    refine w_iadd dX7_add_25 ?_
    refine w_putI dX7_add_26 fl_7_15 okC7 kd_51 (by decide) (by decide) rfl rfl rfl (w_up fun I2 hI => ?_)
    replace H := H I2 hI
    exact w_vret dX7_add_29 rfl ⟨rfl, H⟩
set_option maxRecDepth 20000 in
theorem rX7_stopAt_51 {a1 : Int32} {I : MI} {Q : Int32 → MI → Prop} (H : ((a1 < 0 → (Q (-2) I)) ∧ (¬ a1 < 0 → (((I 51 1) ≤ a1 → (Q (-2) I)) ∧ (¬ (I 51 1) ≤ a1 → (vp_in a1 10 ∧ Q (I 52 a1.toNatClampNeg) I)))))) : Wi mX7_stopAt [.ref 51, .int a1] I Q := by
  show WP mX7_stopAt 286 Rf0 0 [some (.ref 51), some (.int a1)] [] I (qi Q)
  refine w_iload_n dX7_stopAt_0 rfl rfl ?_
  refine w_if_lt (t := 21) dX7_stopAt_1 (by decide) (fun h => ?_) (fun h => ?_)
  · replace H := H.1 h
    refine w_bipush (v := (-2)) dX7_stopAt_21 (by decide) ?_
    exact w_iret dX7_stopAt_23 rfl ⟨_, rfl, H⟩
  · replace H := H.2 h
    refine w_iload_n dX7_stopAt_4 rfl rfl ?_
    refine w_aload_n dX7_stopAt_5 rfl rfl ?_
    refine w_getI dX7_stopAt_6 fl_7_15 okC7 kd_51 (by decide) (by decide) rfl ?_
    refine w_icmp_ge (t := 21) dX7_stopAt_9 (by decide) (fun h => ?_) (fun h => ?_)
    · replace H := H.1 h
      refine w_bipush (v := (-2)) dX7_stopAt_21 (by decide) ?_
      exact w_iret dX7_stopAt_23 rfl ⟨_, rfl, H⟩
    · replace H := H.2 h
      refine w_aload_n dX7_stopAt_12 rfl rfl ?_
      refine w_getR dX7_stopAt_13 fl_7_9 okC7 kd_51 (by decide) (by decide) rfl rf_51_0 ?_
      refine w_iload_n dX7_stopAt_16 rfl rfl ?_
      refine w_iald dX7_stopAt_17 kd_52 (by decide) H.1 ?_
      replace H := H.2
      refine w_goto (t := 23) dX7_stopAt_18 (by decide) ?_
      exact w_iret dX7_stopAt_23 rfl ⟨_, rfl, H⟩
theorem dX7_fillByNumber_0 : decode cX7_fillByNumber 0 = .ok (.aload_n 0, 1) := by decide +kernel
theorem dX7_fillByNumber_1 : decode cX7_fillByNumber 1 = .ok (.invokevirtual 19, 3) := by decide +kernel
theorem dX7_fillByNumber_4 : decode cX7_fillByNumber 4 = .ok (.iconst 0, 1) := by decide +kernel
theorem dX7_fillByNumber_5 : decode cX7_fillByNumber 5 = .ok (.istore_n 2, 1) := by decide +kernel
theorem dX7_fillByNumber_6 : decode cX7_fillByNumber 6 = .ok (.iload_n 2, 1) := by decide +kernel
theorem dX7_fillByNumber_7 : decode cX7_fillByNumber 7 = .ok (.bipush 10, 2) := by decide +kernel
theorem dX7_fillByNumber_9 : decode cX7_fillByNumber 9 = .ok (.if_icmp .ge 22, 3) := by decide +kernel
theorem dX7_fillByNumber_12 : decode cX7_fillByNumber 12 = .ok (.iload_n 1, 1) := by decide +kernel
theorem dX7_fillByNumber_13 : decode cX7_fillByNumber 13 = .ok (.iconst 1, 1) := by decide +kernel
theorem dX7_fillByNumber_14 : decode cX7_fillByNumber 14 = .ok (.iload_n 2, 1) := by decide +kernel
theorem dX7_fillByNumber_15 : decode cX7_fillByNumber 15 = .ok (.ishl, 1) := by decide +kernel
theorem dX7_fillByNumber_16 : decode cX7_fillByNumber 16 = .ok (.iand, 1) := by decide +kernel
theorem dX7_fillByNumber_17 : decode cX7_fillByNumber 17 = .ok (.ifCond .eq 8, 3) := by decide +kernel
theorem dX7_fillByNumber_20 : decode cX7_fillByNumber 20 = .ok (.aload_n 0, 1) := by decide +kernel
theorem dX7_fillByNumber_21 : decode cX7_fillByNumber 21 = .ok (.iload_n 2, 1) := by decide +kernel
theorem dX7_fillByNumber_22 : decode cX7_fillByNumber 22 = .ok (.invokevirtual 22, 3) := by decide +kernel
theorem dX7_fillByNumber_25 : decode cX7_fillByNumber 25 = .ok (.iinc 2 1, 3) := by decide +kernel
theorem dX7_fillByNumber_28 : decode cX7_fillByNumber 28 = .ok (.goto (-22), 3) := by decide +kernel
theorem dX7_fillByNumber_31 : decode cX7_fillByNumber 31 = .ok (.return_, 1) := by decide +kernel
abbrev LX7_fillByNumber_6 (l1 l2 : Int32) (I : MI) (Q : MI → Prop) : Prop := WP mX7_fillByNumber 286 Rf0 6 [some (.ref 48), some (.int l1), some (.int l2)] [] I (qv Q)
abbrev LX7_fillByNumber_25 (l1 l2 : Int32) (I : MI) (Q : MI → Prop) : Prop := WP mX7_fillByNumber 286 Rf0 25 [some (.ref 48), some (.int l1), some (.int l2)] [] I (qv Q)
set_option maxRecDepth 20000 in
theorem rX7_fillByNumber_6 {l1 l2 : Int32} {I : MI} {Q : MI → Prop} (H : ((10 ≤ l2 → (Q I)) ∧ (¬ 10 ≤ l2 → (((l1 &&& ((1 : Int32) <<< (l2 &&& 31))) = 0 → (LX7_fillByNumber_25 l1 l2 I Q)) ∧ (¬ (l1 &&& ((1 : Int32) <<< (l2 &&& 31))) = 0 → (Wv mX7_add [.ref 48, .int l2] I (fun I1 => (LX7_fillByNumber_25 l1 l2 I1 Q)))))))) : LX7_fillByNumber_6 l1 l2 I Q := by
  show WP mX7_fillByNumber 286 Rf0 6 [some (.ref 48), some (.int l1), some (.int l2)] [] I (qv Q)
  refine w_iload_n dX7_fillByNumber_6 rfl rfl ?_
  refine w_bipush (v := 10) dX7_fillByNumber_7 (by decide) ?_
  refine w_icmp_ge (t := 31) dX7_fillByNumber_9 (by decide) (fun h => ?_) (fun h => ?_)
  · replace H := H.1 h
    exact w_vret dX7_fillByNumber_31 rfl ⟨rfl, H⟩
  · replace H := H.2 h
    refine w_iload_n dX7_fillByNumber_12 rfl rfl ?_
    refine w_iconst (v := 1) dX7_fillByNumber_13 (by decide) ?_
    refine w_iload_n dX7_fillByNumber_14 rfl rfl ?_
    refine w_ishl dX7_fillByNumber_15 ?_
    refine w_iand dX7_fillByNumber_16 ?_
    refine w_if_eq (t := 25) dX7_fillByNumber_17 (by decide) (fun h => ?_) (fun h => ?_)
    · replace H := H.1 h
      skip
      exact H
    · replace H := H.2 h
      refine w_aload_n dX7_fillByNumber_20 rfl rfl ?_
      refine w_iload_n dX7_fillByNumber_21 rfl rfl ?_
      refine w_callV (st := []) (As := [.int l2]) dX7_fillByNumber_22 ml_7_22 okX7_add kd_48 (by decide) rfl rfl rfl (Nat.le_of_ble_eq_true rfl) (by decide) (Nat.le_of_ble_eq_true rfl) (wc_v H (fun I1 H => ?_))
      skip
      exact H
set_option maxRecDepth 20000 in
theorem rX7_fillByNumber_25 {l1 l2 : Int32} {I : MI} {Q : MI → Prop} (H : (LX7_fillByNumber_6 l1 (l2 + 1) I Q)) : LX7_fillByNumber_25 l1 l2 I Q := by
  show WP mX7_fillByNumber 286 Rf0 25 [some (.ref 48), some (.int l1), some (.int l2)] [] I (qv Q)
  refine w_iinc (v := l2 + 1) (ls' := [some (.ref 48), some (.int l1), some (.int (l2 + 1))]) dX7_fillByNumber_25 rfl rfl (by decide) rfl rfl ?_
  refine w_goto (t := 6) dX7_fillByNumber_28 (by decide) ?_
  skip
  exact H
set_option maxRecDepth 20000 in
theorem rX7_fillByNumber {a1 : Int32} {I : MI} {Q : MI → Prop} (H : (Wv mX7_clear [.ref 48] I (fun I1 => (LX7_fillByNumber_6 a1 0 I1 Q)))) : Wv mX7_fillByNumber [.ref 48, .int a1] I Q := by
  show WP mX7_fillByNumber 286 Rf0 0 [some (.ref 48), some (.int a1), none] [] I (qv Q)
  refine w_aload_n dX7_fillByNumber_0 rfl rfl ?_
  refine w_callV (st := []) (As := []) dX7_fillByNumber_1 ml_7_19 okX7_clear kd_48 (by decide) rfl rfl rfl (Nat.le_of_ble_eq_true rfl) (by decide) (Nat.le_of_ble_eq_true rfl) (wc_v H (fun I1 H => ?_))
  refine w_iconst (v := 0) dX7_fillByNumber_4 (by decide) ?_
  refine w_istore_n (ls' := [some (.ref 48), some (.int a1), some (.int 0)]) dX7_fillByNumber_5 rfl (by decide) rfl rfl ?_
  skip
  exact H
theorem dX7_copyFrom_0 : decode cX7_copyFrom 0 = .ok (.aload_n 0, 1) := by decide +kernel
theorem dX7_copyFrom_1 : decode cX7_copyFrom 1 = .ok (.aload_n 1, 1) := by decide +kernel
theorem dX7_copyFrom_2 : decode cX7_copyFrom 2 = .ok (.getfield 15, 3) := by decide +kernel
theorem dX7_copyFrom_5 : decode cX7_copyFrom 5 = .ok (.putfield 15, 3) := by decide +kernel
theorem dX7_copyFrom_8 : decode cX7_copyFrom 8 = .ok (.aload_n 1, 1) := by decide +kernel
theorem dX7_copyFrom_9 : decode cX7_copyFrom 9 = .ok (.getfield 9, 3) := by decide +kernel
theorem dX7_copyFrom_12 : decode cX7_copyFrom 12 = .ok (.iconst 0, 1) := by decide +kernel
theorem dX7_copyFrom_13 : decode cX7_copyFrom 13 = .ok (.aload_n 0, 1) := by decide +kernel
theorem dX7_copyFrom_14 : decode cX7_copyFrom 14 = .ok (.getfield 9, 3) := by decide +kernel
theorem dX7_copyFrom_17 : decode cX7_copyFrom 17 = .ok (.iconst 0, 1) := by decide +kernel
theorem dX7_copyFrom_18 : decode cX7_copyFrom 18 = .ok (.bipush 10, 2) := by decide +kernel
theorem dX7_copyFrom_20 : decode cX7_copyFrom 20 = .ok (.invokestatic 26, 3) := by decide +kernel
theorem dX7_copyFrom_23 : decode cX7_copyFrom 23 = .ok (.return_, 1) := by decide +kernel
set_option maxRecDepth 20000 in
theorem rX7_copyFrom {I : MI} {Q : MI → Prop} (H : (∀ I1 : MI, I1 = up2 I 48 1 (I 51 1) → ∀ I2 : MI, I2 = upA I1 49 (va_cpy (I1 52) (I1 49) 0 0 10) → Q I2)) : Wv mX7_copyFrom [.ref 48, .ref 51] I Q := by
  show WP mX7_copyFrom 286 Rf0 0 [some (.ref 48), some (.ref 51)] [] I (qv Q)
  refine w_aload_n dX7_copyFrom_0 rfl rfl ?_
  refine w_aload_n dX7_copyFrom_1 rfl rfl ?_
  refine w_getI dX7_copyFrom_2 fl_7_15 okC7 kd_51 (by decide) (by decide) rfl ?_
  refine w_putI dX7_copyFrom_5 fl_7_15 okC7 kd_48 (by decide) (by decide) rfl rfl rfl (w_up fun I1 hI => ?_)
  replace H := H I1 hI
  refine w_aload_n dX7_copyFrom_8 rfl rfl ?_
  refine w_getR dX7_copyFrom_9 fl_7_9 okC7 kd_51 (by decide) (by decide) rfl rf_51_0 ?_
  refine w_iconst (v := 0) dX7_copyFrom_12 (by decide) ?_
  refine w_aload_n dX7_copyFrom_13 rfl rfl ?_
  refine w_getR dX7_copyFrom_14 fl_7_9 okC7 kd_48 (by decide) (by decide) rfl rf_48_0 ?_
  refine w_iconst (v := 0) dX7_copyFrom_17 (by decide) ?_
  refine w_bipush (v := 10) dX7_copyFrom_18 (by decide) ?_
  refine w_copy dX7_copyFrom_20 ml_7_26 cpN cpS cpI kd_52 kd_49 (by decide) (by decide) (by decide) (by decide) (by decide) (by decide) (by decide) (by decide) (Nat.le_of_ble_eq_true rfl) (w_up fun I2 hI => ?_)
  replace H := H I2 hI
  exact w_vret dX7_copyFrom_23 rfl ⟨rfl, H⟩
theorem dX8_isSkipped_0 : decode cX8_isSkipped 0 = .ok (.aload_n 0, 1) := by decide +kernel
theorem dX8_isSkipped_1 : decode cX8_isSkipped 1 = .ok (.getfield 46, 3) := by decide +kernel
theorem dX8_isSkipped_4 : decode cX8_isSkipped 4 = .ok (.iconst 1, 1) := by decide +kernel
theorem dX8_isSkipped_5 : decode cX8_isSkipped 5 = .ok (.iload_n 1, 1) := by decide +kernel
theorem dX8_isSkipped_6 : decode cX8_isSkipped 6 = .ok (.ishl, 1) := by decide +kernel
theorem dX8_isSkipped_7 : decode cX8_isSkipped 7 = .ok (.iand, 1) := by decide +kernel
theorem dX8_isSkipped_8 : decode cX8_isSkipped 8 = .ok (.ifCond .eq 7, 3) := by decide +kernel
theorem dX8_isSkipped_11 : decode cX8_isSkipped 11 = .ok (.iconst 1, 1) := by decide +kernel
theorem dX8_isSkipped_12 : decode cX8_isSkipped 12 = .ok (.goto 4, 3) := by decide +kernel
theorem dX8_isSkipped_15 : decode cX8_isSkipped 15 = .ok (.iconst 0, 1) := by decide +kernel
theorem dX8_isSkipped_16 : decode cX8_isSkipped 16 = .ok (.ireturn, 1) := by decide +kernel
set_option maxRecDepth 20000 in
theorem rX8_isSkipped {a1 : Int32} {I : MI} {Q : Int32 → MI → Prop} (H : ((((I 30 1) &&& ((1 : Int32) <<< (a1 &&& 31))) = 0 → (Q 0 I)) ∧ (¬ ((I 30 1) &&& ((1 : Int32) <<< (a1 &&& 31))) = 0 → (Q 1 I)))) : Wi mX8_isSkipped [.ref 30, .int a1] I Q := by
  show WP mX8_isSkipped 286 Rf0 0 [some (.ref 30), some (.int a1)] [] I (qi Q)
  refine w_aload_n dX8_isSkipped_0 rfl rfl ?_
  refine w_getI dX8_isSkipped_1 fl_8_46 okC8 kd_30 (by decide) (by decide) rfl ?_
  refine w_iconst (v := 1) dX8_isSkipped_4 (by decide) ?_
  refine w_iload_n dX8_isSkipped_5 rfl rfl ?_
  refine w_ishl dX8_isSkipped_6 ?_
  refine w_iand dX8_isSkipped_7 ?_
  refine w_if_eq (t := 15) dX8_isSkipped_8 (by decide) (fun h => ?_) (fun h => ?_)
  · replace H := H.1 h
    refine w_iconst (v := 0) dX8_isSkipped_15 (by decide) ?_
    exact w_zret dX8_isSkipped_16 rfl rfl ⟨_, rfl, H⟩
  · replace H := H.2 h
    refine w_iconst (v := 1) dX8_isSkipped_11 (by decide) ?_
    refine w_goto (t := 16) dX8_isSkipped_12 (by decide) ?_
    exact w_zret dX8_isSkipped_16 rfl rfl ⟨_, rfl, H⟩
theorem dX8_copyFrom_0 : decode cX8_copyFrom 0 = .ok (.aload_n 0, 1) := by decide +kernel
theorem dX8_copyFrom_1 : decode cX8_copyFrom 1 = .ok (.aload_n 1, 1) := by decide +kernel
theorem dX8_copyFrom_2 : decode cX8_copyFrom 2 = .ok (.getfield 50, 3) := by decide +kernel
theorem dX8_copyFrom_5 : decode cX8_copyFrom 5 = .ok (.putfield 50, 3) := by decide +kernel
theorem dX8_copyFrom_8 : decode cX8_copyFrom 8 = .ok (.aload_n 0, 1) := by decide +kernel
theorem dX8_copyFrom_9 : decode cX8_copyFrom 9 = .ok (.aload_n 1, 1) := by decide +kernel
theorem dX8_copyFrom_10 : decode cX8_copyFrom 10 = .ok (.getfield 46, 3) := by decide +kernel
theorem dX8_copyFrom_13 : decode cX8_copyFrom 13 = .ok (.putfield 46, 3) := by decide +kernel
theorem dX8_copyFrom_16 : decode cX8_copyFrom 16 = .ok (.aload_n 1, 1) := by decide +kernel
theorem dX8_copyFrom_17 : decode cX8_copyFrom 17 = .ok (.getfield 9, 3) := by decide +kernel
theorem dX8_copyFrom_20 : decode cX8_copyFrom 20 = .ok (.iconst 0, 1) := by decide +kernel
theorem dX8_copyFrom_21 : decode cX8_copyFrom 21 = .ok (.aload_n 0, 1) := by decide +kernel
theorem dX8_copyFrom_22 : decode cX8_copyFrom 22 = .ok (.getfield 9, 3) := by decide +kernel
theorem dX8_copyFrom_25 : decode cX8_copyFrom 25 = .ok (.iconst 0, 1) := by decide +kernel
theorem dX8_copyFrom_26 : decode cX8_copyFrom 26 = .ok (.bipush 84, 2) := by decide +kernel
theorem dX8_copyFrom_28 : decode cX8_copyFrom 28 = .ok (.invokestatic 53, 3) := by decide +kernel
theorem dX8_copyFrom_31 : decode cX8_copyFrom 31 = .ok (.aload_n 1, 1) := by decide +kernel
theorem dX8_copyFrom_32 : decode cX8_copyFrom 32 = .ok (.getfield 15, 3) := by decide +kernel
theorem dX8_copyFrom_35 : decode cX8_copyFrom 35 = .ok (.iconst 0, 1) := by decide +kernel
theorem dX8_copyFrom_36 : decode cX8_copyFrom 36 = .ok (.aload_n 0, 1) := by decide +kernel
theorem dX8_copyFrom_37 : decode cX8_copyFrom 37 = .ok (.getfield 15, 3) := by decide +kernel
theorem dX8_copyFrom_40 : decode cX8_copyFrom 40 = .ok (.iconst 0, 1) := by decide +kernel
theorem dX8_copyFrom_41 : decode cX8_copyFrom 41 = .ok (.bipush 12, 2) := by decide +kernel
theorem dX8_copyFrom_43 : decode cX8_copyFrom 43 = .ok (.invokestatic 53, 3) := by decide +kernel
theorem dX8_copyFrom_46 : decode cX8_copyFrom 46 = .ok (.aload_n 1, 1) := by decide +kernel
theorem dX8_copyFrom_47 : decode cX8_copyFrom 47 = .ok (.getfield 18, 3) := by decide +kernel
theorem dX8_copyFrom_50 : decode cX8_copyFrom 50 = .ok (.iconst 0, 1) := by decide +kernel
theorem dX8_copyFrom_51 : decode cX8_copyFrom 51 = .ok (.aload_n 0, 1) := by decide +kernel
theorem dX8_copyFrom_52 : decode cX8_copyFrom 52 = .ok (.getfield 18, 3) := by decide +kernel
theorem dX8_copyFrom_55 : decode cX8_copyFrom 55 = .ok (.iconst 0, 1) := by decide +kernel
theorem dX8_copyFrom_56 : decode cX8_copyFrom 56 = .ok (.bipush 18, 2) := by decide +kernel
theorem dX8_copyFrom_58 : decode cX8_copyFrom 58 = .ok (.invokestatic 53, 3) := by decide +kernel
theorem dX8_copyFrom_61 : decode cX8_copyFrom 61 = .ok (.aload_n 1, 1) := by decide +kernel
theorem dX8_copyFrom_62 : decode cX8_copyFrom 62 = .ok (.getfield 21, 3) := by decide +kernel
theorem dX8_copyFrom_65 : decode cX8_copyFrom 65 = .ok (.iconst 0, 1) := by decide +kernel
theorem dX8_copyFrom_66 : decode cX8_copyFrom 66 = .ok (.aload_n 0, 1) := by decide +kernel
theorem dX8_copyFrom_67 : decode cX8_copyFrom 67 = .ok (.getfield 21, 3) := by decide +kernel
theorem dX8_copyFrom_70 : decode cX8_copyFrom 70 = .ok (.iconst 0, 1) := by decide +kernel
theorem dX8_copyFrom_71 : decode cX8_copyFrom 71 = .ok (.bipush 18, 2) := by decide +kernel
theorem dX8_copyFrom_73 : decode cX8_copyFrom 73 = .ok (.invokestatic 53, 3) := by decide +kernel
theorem dX8_copyFrom_76 : decode cX8_copyFrom 76 = .ok (.aload_n 1, 1) := by decide +kernel
theorem dX8_copyFrom_77 : decode cX8_copyFrom 77 = .ok (.getfield 24, 3) := by decide +kernel
theorem dX8_copyFrom_80 : decode cX8_copyFrom 80 = .ok (.iconst 0, 1) := by decide +kernel
theorem dX8_copyFrom_81 : decode cX8_copyFrom 81 = .ok (.aload_n 0, 1) := by decide +kernel
theorem dX8_copyFrom_82 : decode cX8_copyFrom 82 = .ok (.getfield 24, 3) := by decide +kernel
theorem dX8_copyFrom_85 : decode cX8_copyFrom 85 = .ok (.iconst 0, 1) := by decide +kernel
theorem dX8_copyFrom_86 : decode cX8_copyFrom 86 = .ok (.bipush 12, 2) := by decide +kernel
theorem dX8_copyFrom_88 : decode cX8_copyFrom 88 = .ok (.invokestatic 53, 3) := by decide +kernel
theorem dX8_copyFrom_91 : decode cX8_copyFrom 91 = .ok (.aload_n 1, 1) := by decide +kernel
theorem dX8_copyFrom_92 : decode cX8_copyFrom 92 = .ok (.getfield 27, 3) := by decide +kernel
theorem dX8_copyFrom_95 : decode cX8_copyFrom 95 = .ok (.iconst 0, 1) := by decide +kernel
theorem dX8_copyFrom_96 : decode cX8_copyFrom 96 = .ok (.aload_n 0, 1) := by decide +kernel
theorem dX8_copyFrom_97 : decode cX8_copyFrom 97 = .ok (.getfield 27, 3) := by decide +kernel
theorem dX8_copyFrom_100 : decode cX8_copyFrom 100 = .ok (.iconst 0, 1) := by decide +kernel
theorem dX8_copyFrom_101 : decode cX8_copyFrom 101 = .ok (.bipush 12, 2) := by decide +kernel
theorem dX8_copyFrom_103 : decode cX8_copyFrom 103 = .ok (.invokestatic 53, 3) := by decide +kernel
theorem dX8_copyFrom_106 : decode cX8_copyFrom 106 = .ok (.aload_n 1, 1) := by decide +kernel
theorem dX8_copyFrom_107 : decode cX8_copyFrom 107 = .ok (.getfield 30, 3) := by decide +kernel
theorem dX8_copyFrom_110 : decode cX8_copyFrom 110 = .ok (.iconst 0, 1) := by decide +kernel
theorem dX8_copyFrom_111 : decode cX8_copyFrom 111 = .ok (.aload_n 0, 1) := by decide +kernel
theorem dX8_copyFrom_112 : decode cX8_copyFrom 112 = .ok (.getfield 30, 3) := by decide +kernel
theorem dX8_copyFrom_115 : decode cX8_copyFrom 115 = .ok (.iconst 0, 1) := by decide +kernel
theorem dX8_copyFrom_116 : decode cX8_copyFrom 116 = .ok (.bipush 12, 2) := by decide +kernel
theorem dX8_copyFrom_118 : decode cX8_copyFrom 118 = .ok (.invokestatic 53, 3) := by decide +kernel
theorem dX8_copyFrom_121 : decode cX8_copyFrom 121 = .ok (.aload_n 1, 1) := by decide +kernel
theorem dX8_copyFrom_122 : decode cX8_copyFrom 122 = .ok (.getfield 33, 3) := by decide +kernel
theorem dX8_copyFrom_125 : decode cX8_copyFrom 125 = .ok (.iconst 0, 1) := by decide +kernel
theorem dX8_copyFrom_126 : decode cX8_copyFrom 126 = .ok (.aload_n 0, 1) := by decide +kernel
theorem dX8_copyFrom_127 : decode cX8_copyFrom 127 = .ok (.getfield 33, 3) := by decide +kernel
theorem dX8_copyFrom_130 : decode cX8_copyFrom 130 = .ok (.iconst 0, 1) := by decide +kernel
theorem dX8_copyFrom_131 : decode cX8_copyFrom 131 = .ok (.bipush 12, 2) := by decide +kernel
theorem dX8_copyFrom_133 : decode cX8_copyFrom 133 = .ok (.invokestatic 53, 3) := by decide +kernel
theorem dX8_copyFrom_136 : decode cX8_copyFrom 136 = .ok (.aload_n 1, 1) := by decide +kernel
theorem dX8_copyFrom_137 : decode cX8_copyFrom 137 = .ok (.getfield 36, 3) := by decide +kernel
theorem dX8_copyFrom_140 : decode cX8_copyFrom 140 = .ok (.iconst 0, 1) := by decide +kernel
theorem dX8_copyFrom_141 : decode cX8_copyFrom 141 = .ok (.aload_n 0, 1) := by decide +kernel
theorem dX8_copyFrom_142 : decode cX8_copyFrom 142 = .ok (.getfield 36, 3) := by decide +kernel
theorem dX8_copyFrom_145 : decode cX8_copyFrom 145 = .ok (.iconst 0, 1) := by decide +kernel
theorem dX8_copyFrom_146 : decode cX8_copyFrom 146 = .ok (.bipush 100, 2) := by decide +kernel
theorem dX8_copyFrom_148 : decode cX8_copyFrom 148 = .ok (.invokestatic 53, 3) := by decide +kernel
theorem dX8_copyFrom_151 : decode cX8_copyFrom 151 = .ok (.aload_n 0, 1) := by decide +kernel
theorem dX8_copyFrom_152 : decode cX8_copyFrom 152 = .ok (.getfield 42, 3) := by decide +kernel
theorem dX8_copyFrom_155 : decode cX8_copyFrom 155 = .ok (.aload_n 1, 1) := by decide +kernel
theorem dX8_copyFrom_156 : decode cX8_copyFrom 156 = .ok (.getfield 42, 3) := by decide +kernel
theorem dX8_copyFrom_159 : decode cX8_copyFrom 159 = .ok (.invokevirtual 59, 3) := by decide +kernel
theorem dX8_copyFrom_162 : decode cX8_copyFrom 162 = .ok (.return_, 1) := by decide +kernel
set_option maxRecDepth 20000 in
theorem rX8_copyFrom {c d : Nat} {I : MI} {Q : MI → Prop} (hc : IsSt c) (hd : IsSt d) (H : (∀ I1 : MI, I1 = up2 I c 0 (I d 0) → ∀ I2 : MI, I2 = up2 I1 c 1 (I1 d 1) → ∀ I3 : MI, I3 = upA I2 (c + 1) (va_cpy (I2 (d + 1)) (I2 (c + 1)) 0 0 84) → ∀ I4 : MI, I4 = upA I3 (c + 2) (va_cpy (I3 (d + 2)) (I3 (c + 2)) 0 0 12) → ∀ I5 : MI, I5 = upA I4 (c + 3) (va_cpy (I4 (d + 3)) (I4 (c + 3)) 0 0 18) → ∀ I6 : MI, I6 = upA I5 (c + 4) (va_cpy (I5 (d + 4)) (I5 (c + 4)) 0 0 18) → ∀ I7 : MI, I7 = upA I6 (c + 5) (va_cpy (I6 (d + 5)) (I6 (c + 5)) 0 0 12) → ∀ I8 : MI, I8 = upA I7 (c + 6) (va_cpy (I7 (d + 6)) (I7 (c + 6)) 0 0 12) → ∀ I9 : MI, I9 = upA I8 (c + 7) (va_cpy (I8 (d + 7)) (I8 (c + 7)) 0 0 12) → ∀ I10 : MI, I10 = upA I9 (c + 8) (va_cpy (I9 (d + 8)) (I9 (c + 8)) 0 0 12) → ∀ I11 : MI, I11 = upA I10 (c + 9) (va_cpy (I10 (d + 9)) (I10 (c + 9)) 0 0 100) → Wv mX3_copyFrom [.ref (c + 10), .ref (d + 10)] I11 (fun I12 => (Q I12)))) : Wv mX8_copyFrom [.ref c, .ref d] I Q := by
  show WP mX8_copyFrom 286 Rf0 0 [some (.ref c), some (.ref d)] [] I (qv Q)
  refine w_aload_n dX8_copyFrom_0 rfl rfl ?_
  refine w_aload_n dX8_copyFrom_1 rfl rfl ?_
  refine w_getI dX8_copyFrom_2 fl_8_50 okC8 hd.1 (by have := hd.2.1; omega) (by decide) rfl ?_
  refine w_putI dX8_copyFrom_5 fl_8_50 okC8 hc.1 (by have := hc.2.1; omega) (by decide) rfl rfl rfl (w_up fun I1 hI => ?_)
  replace H := H I1 hI
  refine w_aload_n dX8_copyFrom_8 rfl rfl ?_
  refine w_aload_n dX8_copyFrom_9 rfl rfl ?_
  refine w_getI dX8_copyFrom_10 fl_8_46 okC8 hd.1 (by have := hd.2.1; omega) (by decide) rfl ?_
  refine w_putI dX8_copyFrom_13 fl_8_46 okC8 hc.1 (by have := hc.2.1; omega) (by decide) rfl rfl rfl (w_up fun I2 hI => ?_)
  replace H := H I2 hI
  refine w_aload_n dX8_copyFrom_16 rfl rfl ?_
  refine w_getR dX8_copyFrom_17 fl_8_9 okC8 hd.1 (by have := hd.2.1; omega) (by decide) rfl hd.2.2.1 ?_
  refine w_iconst (v := 0) dX8_copyFrom_20 (by decide) ?_
  refine w_aload_n dX8_copyFrom_21 rfl rfl ?_
  refine w_getR dX8_copyFrom_22 fl_8_9 okC8 hc.1 (by have := hc.2.1; omega) (by decide) rfl hc.2.2.1 ?_
  refine w_iconst (v := 0) dX8_copyFrom_25 (by decide) ?_
  refine w_bipush (v := 84) dX8_copyFrom_26 (by decide) ?_
  refine w_copy dX8_copyFrom_28 ml_8_53 cpN cpS cpI hd.2.2.2.2.2.2.2.2.2.2.2.2.1 hc.2.2.2.2.2.2.2.2.2.2.2.2.1 (by have := hd.2.1; omega) (by have := hc.2.1; omega) (by decide) (by decide) (by decide) (by decide) (by decide) (by decide) (Nat.le_of_ble_eq_true rfl) (w_up fun I3 hI => ?_)
  replace H := H I3 hI
  refine w_aload_n dX8_copyFrom_31 rfl rfl ?_
  refine w_getR dX8_copyFrom_32 fl_8_15 okC8 hd.1 (by have := hd.2.1; omega) (by decide) rfl hd.2.2.2.1 ?_
  refine w_iconst (v := 0) dX8_copyFrom_35 (by decide) ?_
  refine w_aload_n dX8_copyFrom_36 rfl rfl ?_
  refine w_getR dX8_copyFrom_37 fl_8_15 okC8 hc.1 (by have := hc.2.1; omega) (by decide) rfl hc.2.2.2.1 ?_
  refine w_iconst (v := 0) dX8_copyFrom_40 (by decide) ?_
  refine w_bipush (v := 12) dX8_copyFrom_41 (by decide) ?_
  refine w_copy dX8_copyFrom_43 ml_8_53 cpN cpS cpI hd.2.2.2.2.2.2.2.2.2.2.2.2.2.1 hc.2.2.2.2.2.2.2.2.2.2.2.2.2.1 (by have := hd.2.1; omega) (by have := hc.2.1; omega) (by decide) (by decide) (by decide) (by decide) (by decide) (by decide) (Nat.le_of_ble_eq_true rfl) (w_up fun I4 hI => ?_)
  replace H := H I4 hI
  refine w_aload_n dX8_copyFrom_46 rfl rfl ?_
  refine w_getR dX8_copyFrom_47 fl_8_18 okC8 hd.1 (by have := hd.2.1; omega) (by decide) rfl hd.2.2.2.2.1 ?_
  refine w_iconst (v := 0) dX8_copyFrom_50 (by decide) ?_
  refine w_aload_n dX8_copyFrom_51 rfl rfl ?_
  refine w_getR dX8_copyFrom_52 fl_8_18 okC8 hc.1 (by have := hc.2.1; omega) (by decide) rfl hc.2.2.2.2.1 ?_
  refine w_iconst (v := 0) dX8_copyFrom_55 (by decide) ?_
  refine w_bipush (v := 18) dX8_copyFrom_56 (by decide) ?_
  refine w_copy dX8_copyFrom_58 ml_8_53 cpN cpS cpI hd.2.2.2.2.2.2.2.2.2.2.2.2.2.2.1 hc.2.2.2.2.2.2.2.2.2.2.2.2.2.2.1 (by have := hd.2.1; omega) (by have := hc.2.1; omega) (by decide) (by decide) (by decide) (by decide) (by decide) (by decide) (Nat.le_of_ble_eq_true rfl) (w_up fun I5 hI => ?_)
  replace H := H I5 hI
  refine w_aload_n dX8_copyFrom_61 rfl rfl ?_
  refine w_getR dX8_copyFrom_62 fl_8_21 okC8 hd.1 (by have := hd.2.1; omega) (by decide) rfl hd.2.2.2.2.2.1 ?_
  refine w_iconst (v := 0) dX8_copyFrom_65 (by decide) ?_
  refine w_aload_n dX8_copyFrom_66 rfl rfl ?_
  refine w_getR dX8_copyFrom_67 fl_8_21 okC8 hc.1 (by have := hc.2.1; omega) (by decide) rfl hc.2.2.2.2.2.1 ?_
  refine w_iconst (v := 0) dX8_copyFrom_70 (by decide) ?_
  refine w_bipush (v := 18) dX8_copyFrom_71 (by decide) ?_
  refine w_copy dX8_copyFrom_73 ml_8_53 cpN cpS cpI hd.2.2.2.2.2.2.2.2.2.2.2.2.2.2.2.1 hc.2.2.2.2.2.2.2.2.2.2.2.2.2.2.2.1 (by have := hd.2.1; omega) (by have := hc.2.1; omega) (by decide) (by decide) (by decide) (by decide) (by decide) (by decide) (Nat.le_of_ble_eq_true rfl) (w_up fun I6 hI => ?_)
  replace H := H I6 hI
  refine w_aload_n dX8_copyFrom_76 rfl rfl ?_
  refine w_getR dX8_copyFrom_77 fl_8_24 okC8 hd.1 (by have := hd.2.1; omega) (by decide) rfl hd.2.2.2.2.2.2.1 ?_
  refine w_iconst (v := 0) dX8_copyFrom_80 (by decide) ?_
  refine w_aload_n dX8_copyFrom_81 rfl rfl ?_
  refine w_getR dX8_copyFrom_82 fl_8_24 okC8 hc.1 (by have := hc.2.1; omega) (by decide) rfl hc.2.2.2.2.2.2.1 ?_
  refine w_iconst (v := 0) dX8_copyFrom_85 (by decide) ?_
  refine w_bipush (v := 12) dX8_copyFrom_86 (by decide) ?_
  refine w_copy dX8_copyFrom_88 ml_8_53 cpN cpS cpI hd.2.2.2.2.2.2.2.2.2.2.2.2.2.2.2.2.1 hc.2.2.2.2.2.2.2.2.2.2.2.2.2.2.2.2.1 (by have := hd.2.1; omega) (by have := hc.2.1; omega) (by decide) (by decide) (by decide) (by decide) (by decide) (by decide) (Nat.le_of_ble_eq_true rfl) (w_up fun I7 hI => ?_)
  replace H := H I7 hI
  refine w_aload_n dX8_copyFrom_91 rfl rfl ?_
  refine w_getR dX8_copyFrom_92 fl_8_27 okC8 hd.1 (by have := hd.2.1; omega) (by decide) rfl hd.2.2.2.2.2.2.2.1 ?_
  refine w_iconst (v := 0) dX8_copyFrom_95 (by decide) ?_
  refine w_aload_n dX8_copyFrom_96 rfl rfl ?_
  refine w_getR dX8_copyFrom_97 fl_8_27 okC8 hc.1 (by have := hc.2.1; omega) (by decide) rfl hc.2.2.2.2.2.2.2.1 ?_
  refine w_iconst (v := 0) dX8_copyFrom_100 (by decide) ?_
  refine w_bipush (v := 12) dX8_copyFrom_101 (by decide) ?_
  refine w_copy dX8_copyFrom_103 ml_8_53 cpN cpS cpI hd.2.2.2.2.2.2.2.2.2.2.2.2.2.2.2.2.2.1 hc.2.2.2.2.2.2.2.2.2.2.2.2.2.2.2.2.2.1 (by have := hd.2.1; omega) (by have := hc.2.1; omega) (by decide) (by decide) (by decide) (by decide) (by decide) (by decide) (Nat.le_of_ble_eq_true rfl) (w_up fun I8 hI => ?_)
  replace H := H I8 hI
  refine w_aload_n dX8_copyFrom_106 rfl rfl ?_
  refine w_getR dX8_copyFrom_107 fl_8_30 okC8 hd.1 (by have := hd.2.1; omega) (by decide) rfl hd.2.2.2.2.2.2.2.2.1 ?_
  refine w_iconst (v := 0) dX8_copyFrom_110 (by decide) ?_
  refine w_aload_n dX8_copyFrom_111 rfl rfl ?_
  refine w_getR dX8_copyFrom_112 fl_8_30 okC8 hc.1 (by have := hc.2.1; omega) (by decide) rfl hc.2.2.2.2.2.2.2.2.1 ?_
  refine w_iconst (v := 0) dX8_copyFrom_115 (by decide) ?_
  refine w_bipush (v := 12) dX8_copyFrom_116 (by decide) ?_
  refine w_copy dX8_copyFrom_118 ml_8_53 cpN cpS cpI hd.2.2.2.2.2.2.2.2.2.2.2.2.2.2.2.2.2.2.1 hc.2.2.2.2.2.2.2.2.2.2.2.2.2.2.2.2.2.2.1 (by have := hd.2.1; omega) (by have := hc.2.1; omega) (by decide) (by decide) (by decide) (by decide) (by decide) (by decide) (Nat.le_of_ble_eq_true rfl) (w_up fun I9 hI => ?_)
  replace H := H I9 hI
  refine w_aload_n dX8_copyFrom_121 rfl rfl ?_
  refine w_getR dX8_copyFrom_122 fl_8_33 okC8 hd.1 (by have := hd.2.1; omega) (by decide) rfl hd.2.2.2.2.2.2.2.2.2.1 ?_
  refine w_iconst (v := 0) dX8_copyFrom_125 (by decide) ?_
  refine w_aload_n dX8_copyFrom_126 rfl rfl ?_
  refine w_getR dX8_copyFrom_127 fl_8_33 okC8 hc.1 (by have := hc.2.1; omega) (by decide) rfl hc.2.2.2.2.2.2.2.2.2.1 ?_
  refine w_iconst (v := 0) dX8_copyFrom_130 (by decide) ?_
  refine w_bipush (v := 12) dX8_copyFrom_131 (by decide) ?_
  refine w_copy dX8_copyFrom_133 ml_8_53 cpN cpS cpI hd.2.2.2.2.2.2.2.2.2.2.2.2.2.2.2.2.2.2.2.1 hc.2.2.2.2.2.2.2.2.2.2.2.2.2.2.2.2.2.2.2.1 (by have := hd.2.1; omega) (by have := hc.2.1; omega) (by decide) (by decide) (by decide) (by decide) (by decide) (by decide) (Nat.le_of_ble_eq_true rfl) (w_up fun I10 hI => ?_)
  replace H := H I10 hI
  refine w_aload_n dX8_copyFrom_136 rfl rfl ?_
  refine w_getR dX8_copyFrom_137 fl_8_36 okC8 hd.1 (by have := hd.2.1; omega) (by decide) rfl hd.2.2.2.2.2.2.2.2.2.2.1 ?_
  refine w_iconst (v := 0) dX8_copyFrom_140 (by decide) ?_
  refine w_aload_n dX8_copyFrom_141 rfl rfl ?_
  refine w_getR dX8_copyFrom_142 fl_8_36 okC8 hc.1 (by have := hc.2.1; omega) (by decide) rfl hc.2.2.2.2.2.2.2.2.2.2.1 ?_
  refine w_iconst (v := 0) dX8_copyFrom_145 (by decide) ?_
  refine w_bipush (v := 100) dX8_copyFrom_146 (by decide) ?_
  refine w_copy dX8_copyFrom_148 ml_8_53 cpN cpS cpI hd.2.2.2.2.2.2.2.2.2.2.2.2.2.2.2.2.2.2.2.2.1 hc.2.2.2.2.2.2.2.2.2.2.2.2.2.2.2.2.2.2.2.2.1 (by have := hd.2.1; omega) (by have := hc.2.1; omega) (by decide) (by decide) (by decide) (by decide) (by decide) (by decide) (Nat.le_of_ble_eq_true rfl) (w_up fun I11 hI => ?_)
  replace H := H I11 hI
  refine w_aload_n dX8_copyFrom_151 rfl rfl ?_
  refine w_getR dX8_copyFrom_152 fl_8_42 okC8 hc.1 (by have := hc.2.1; omega) (by decide) rfl hc.2.2.2.2.2.2.2.2.2.2.2.1 ?_
  refine w_aload_n dX8_copyFrom_155 rfl rfl ?_
  refine w_getR dX8_copyFrom_156 fl_8_42 okC8 hd.1 (by have := hd.2.1; omega) (by decide) rfl hd.2.2.2.2.2.2.2.2.2.2.2.1 ?_
  refine w_callV (st := []) (As := [.ref (d + 10)]) dX8_copyFrom_159 ml_8_59 okX3_copyFrom hc.2.2.2.2.2.2.2.2.2.2.2.2.2.2.2.2.2.2.2.2.2.1 (by have := hc.2.1; omega) rfl rfl rfl (Nat.le_of_ble_eq_true rfl) (by decide) (Nat.le_of_ble_eq_true rfl) (wc_v H (fun I12 H => ?_))
  exact w_vret dX8_copyFrom_162 rfl ⟨rfl, H⟩
theorem dX9_isWord_0 : decode cX9_isWord 0 = .ok (.aload_n 0, 1) := by decide +kernel
theorem dX9_isWord_1 : decode cX9_isWord 1 = .ok (.getfield 41, 3) := by decide +kernel
theorem dX9_isWord_4 : decode cX9_isWord 4 = .ok (.iconst 1, 1) := by decide +kernel
theorem dX9_isWord_5 : decode cX9_isWord 5 = .ok (.if_icmp .ne 19, 3) := by decide +kernel
theorem dX9_isWord_8 : decode cX9_isWord 8 = .ok (.aload_n 0, 1) := by decide +kernel
theorem dX9_isWord_9 : decode cX9_isWord 9 = .ok (.getfield 28, 3) := by decide +kernel
theorem dX9_isWord_12 : decode cX9_isWord 12 = .ok (.aload_n 0, 1) := by decide +kernel
theorem dX9_isWord_13 : decode cX9_isWord 13 = .ok (.getfield 34, 3) := by decide +kernel
theorem dX9_isWord_16 : decode cX9_isWord 16 = .ok (.isub, 1) := by decide +kernel
theorem dX9_isWord_17 : decode cX9_isWord 17 = .ok (.aload_n 1, 1) := by decide +kernel
theorem dX9_isWord_18 : decode cX9_isWord 18 = .ok (.invokevirtual 44, 3) := by decide +kernel
theorem dX9_isWord_21 : decode cX9_isWord 21 = .ok (.if_icmp .eq 5, 3) := by decide +kernel
theorem dX9_isWord_24 : decode cX9_isWord 24 = .ok (.iconst 0, 1) := by decide +kernel
theorem dX9_isWord_25 : decode cX9_isWord 25 = .ok (.ireturn, 1) := by decide +kernel
theorem dX9_isWord_26 : decode cX9_isWord 26 = .ok (.iconst 0, 1) := by decide +kernel
theorem dX9_isWord_27 : decode cX9_isWord 27 = .ok (.istore_n 2, 1) := by decide +kernel
theorem dX9_isWord_28 : decode cX9_isWord 28 = .ok (.iload_n 2, 1) := by decide +kernel
theorem dX9_isWord_29 : decode cX9_isWord 29 = .ok (.aload_n 1, 1) := by decide +kernel
theorem dX9_isWord_30 : decode cX9_isWord 30 = .ok (.invokevirtual 44, 3) := by decide +kernel
theorem dX9_isWord_33 : decode cX9_isWord 33 = .ok (.if_icmp .ge 30, 3) := by decide +kernel
theorem dX9_isWord_36 : decode cX9_isWord 36 = .ok (.aload_n 0, 1) := by decide +kernel
theorem dX9_isWord_37 : decode cX9_isWord 37 = .ok (.getfield 9, 3) := by decide +kernel
theorem dX9_isWord_40 : decode cX9_isWord 40 = .ok (.aload_n 0, 1) := by decide +kernel
theorem dX9_isWord_41 : decode cX9_isWord 41 = .ok (.getfield 34, 3) := by decide +kernel
theorem dX9_isWord_44 : decode cX9_isWord 44 = .ok (.iload_n 2, 1) := by decide +kernel
theorem dX9_isWord_45 : decode cX9_isWord 45 = .ok (.iadd, 1) := by decide +kernel
theorem dX9_isWord_46 : decode cX9_isWord 46 = .ok (.baload, 1) := by decide +kernel
theorem dX9_isWord_47 : decode cX9_isWord 47 = .ok (.aload_n 1, 1) := by decide +kernel
theorem dX9_isWord_48 : decode cX9_isWord 48 = .ok (.iload_n 2, 1) := by decide +kernel
theorem dX9_isWord_49 : decode cX9_isWord 49 = .ok (.invokevirtual 49, 3) := by decide +kernel
theorem dX9_isWord_52 : decode cX9_isWord 52 = .ok (.if_icmp .eq 5, 3) := by decide +kernel
theorem dX9_isWord_55 : decode cX9_isWord 55 = .ok (.iconst 0, 1) := by decide +kernel
theorem dX9_isWord_56 : decode cX9_isWord 56 = .ok (.ireturn, 1) := by decide +kernel
theorem dX9_isWord_57 : decode cX9_isWord 57 = .ok (.iinc 2 1, 3) := by decide +kernel
theorem dX9_isWord_60 : decode cX9_isWord 60 = .ok (.goto (-32), 3) := by decide +kernel
theorem dX9_isWord_63 : decode cX9_isWord 63 = .ok (.iconst 1, 1) := by decide +kernel
theorem dX9_isWord_64 : decode cX9_isWord 64 = .ok (.ireturn, 1) := by decide +kernel
abbrev LX9_isWord_28 (j : Nat) (l2 : Int32) (I : MI) (Q : Int32 → MI → Prop) : Prop := WP mX9_isWord 286 Rf0 28 [some (.ref 1), some (.retAddr (2 * j + 1)), some (.int l2)] [] I (qi Q)
set_option maxRecDepth 20000 in
theorem rX9_isWord_28 {j : Nat} {l2 : Int32} {I : MI} {Q : Int32 → MI → Prop} (hj : j < 7) (H : (Wi mJ0_length_8abf5 [.retAddr (2 * j + 1)] I (fun r2 I1 => ((r2 ≤ l2 → (Q 1 I1)) ∧ (¬ r2 ≤ l2 → (vp_in ((I1 1 3) + l2) 900 ∧ Wi mJ0_charAt_5068e [.retAddr (2 * j + 1), .int l2] I1 (fun r4 I3 => (((I1 2 ((I1 1 3) + l2).toNatClampNeg) = r4 → (LX9_isWord_28 j (l2 + 1) I3 Q)) ∧ (¬ (I1 2 ((I1 1 3) + l2).toNatClampNeg) = r4 → (Q 0 I3)))))))))) : LX9_isWord_28 j l2 I Q := by
  show WP mX9_isWord 286 Rf0 28 [some (.ref 1), some (.retAddr (2 * j + 1)), some (.int l2)] [] I (qi Q)
  refine w_iload_n dX9_isWord_28 rfl rfl ?_
  refine w_aload_nS dX9_isWord_29 rfl rfl ?_
  refine w_callW (j := j) (st := [.int l2]) (As := []) hj dX9_isWord_30 ml_9_44 okJ0_length_8abf5 rfl rfl (Nat.le_of_ble_eq_true rfl) (by decide) (Nat.le_of_ble_eq_true rfl) (wc_i H (fun r2 I1 H => ?_))
  refine w_icmp_ge (t := 63) dX9_isWord_33 (by decide) (fun h => ?_) (fun h => ?_)
  · replace H := H.1 h
    refine w_iconst (v := 1) dX9_isWord_63 (by decide) ?_
    exact w_zret dX9_isWord_64 rfl rfl ⟨_, rfl, H⟩
  · replace H := H.2 h
    refine w_aload_n dX9_isWord_36 rfl rfl ?_
    refine w_getR dX9_isWord_37 fl_9_9 okC9 kd_1 (by decide) (by decide) rfl rf_1_0 ?_
    refine w_aload_n dX9_isWord_40 rfl rfl ?_
    refine w_getI dX9_isWord_41 fl_9_34 okC9 kd_1 (by decide) (by decide) rfl ?_
    refine w_iload_n dX9_isWord_44 rfl rfl ?_
    refine w_iadd dX9_isWord_45 ?_
    refine w_bald dX9_isWord_46 kd_2 (by decide) H.1 ?_
    replace H := H.2
    refine w_aload_nS dX9_isWord_47 rfl rfl ?_
    refine w_iload_n dX9_isWord_48 rfl rfl ?_
    refine w_callW (j := j) (st := [.int (I1 2 ((I1 1 3) + l2).toNatClampNeg)]) (As := [.int l2]) hj dX9_isWord_49 ml_9_49 okJ0_charAt_5068e rfl rfl (Nat.le_of_ble_eq_true rfl) (by decide) (Nat.le_of_ble_eq_true rfl) (wc_i H (fun r4 I3 H => ?_))
    refine w_icmp_eq (t := 57) dX9_isWord_52 (by decide) (fun h => ?_) (fun h => ?_)
    · replace H := H.1 h
      refine w_iinc (v := l2 + 1) (ls' := [some (.ref 1), some (.retAddr (2 * j + 1)), some (.int (l2 + 1))]) dX9_isWord_57 rfl rfl (by decide) rfl rfl ?_
      refine w_goto (t := 28) dX9_isWord_60 (by decide) ?_
      skip
      exact H
    · replace H := H.2 h
      refine w_iconst (v := 0) dX9_isWord_55 (by decide) ?_
      exact w_zret dX9_isWord_56 rfl rfl ⟨_, rfl, H⟩
set_option maxRecDepth 20000 in
theorem rX9_isWord {j : Nat} {I : MI} {Q : Int32 → MI → Prop} (hj : j < 7) (H : ((¬ (I 1 5) = 1 → (Q 0 I)) ∧ ((I 1 5) = 1 → (Wi mJ0_length_8abf5 [.retAddr (2 * j + 1)] I (fun r2 I1 => ((((I 1 4) - (I 1 3)) = r2 → (LX9_isWord_28 j 0 I1 Q)) ∧ (¬ ((I 1 4) - (I 1 3)) = r2 → (Q 0 I1)))))))) : Wi mX9_isWord [.ref 1, .retAddr (2 * j + 1)] I Q := by
  show WP mX9_isWord 286 Rf0 0 [some (.ref 1), some (.retAddr (2 * j + 1)), none] [] I (qi Q)
  refine w_aload_n dX9_isWord_0 rfl rfl ?_
  refine w_getI dX9_isWord_1 fl_9_41 okC9 kd_1 (by decide) (by decide) rfl ?_
  refine w_iconst (v := 1) dX9_isWord_4 (by decide) ?_
  refine w_icmp_ne (t := 24) dX9_isWord_5 (by decide) (fun h => ?_) (fun h => ?_)
  · replace H := H.1 h
    refine w_iconst (v := 0) dX9_isWord_24 (by decide) ?_
    exact w_zret dX9_isWord_25 rfl rfl ⟨_, rfl, H⟩
  · replace H := H.2 h
    refine w_aload_n dX9_isWord_8 rfl rfl ?_
    refine w_getI dX9_isWord_9 fl_9_28 okC9 kd_1 (by decide) (by decide) rfl ?_
    refine w_aload_n dX9_isWord_12 rfl rfl ?_
    refine w_getI dX9_isWord_13 fl_9_34 okC9 kd_1 (by decide) (by decide) rfl ?_
    refine w_isub dX9_isWord_16 ?_
    refine w_aload_nS dX9_isWord_17 rfl rfl ?_
    refine w_callW (j := j) (st := [.int ((I 1 4) - (I 1 3))]) (As := []) hj dX9_isWord_18 ml_9_44 okJ0_length_8abf5 rfl rfl (Nat.le_of_ble_eq_true rfl) (by decide) (Nat.le_of_ble_eq_true rfl) (wc_i H (fun r2 I1 H => ?_))
    refine w_icmp_eq (t := 26) dX9_isWord_21 (by decide) (fun h => ?_) (fun h => ?_)
    · replace H := H.1 h
      refine w_iconst (v := 0) dX9_isWord_26 (by decide) ?_
      refine w_istore_n (ls' := [some (.ref 1), some (.retAddr (2 * j + 1)), some (.int 0)]) dX9_isWord_27 rfl (by decide) rfl rfl ?_
      skip
      exact H
    · replace H := H.2 h
      refine w_iconst (v := 0) dX9_isWord_24 (by decide) ?_
      exact w_zret dX9_isWord_25 rfl rfl ⟨_, rfl, H⟩
theorem dJ7_fill_53178_0 : decode cJ7_fill_53178 0 = .ok (.iconst 0, 1) := by decide +kernel
theorem dJ7_fill_53178_1 : decode cJ7_fill_53178 1 = .ok (.istore_n 2, 1) := by decide +kernel
theorem dJ7_fill_53178_2 : decode cJ7_fill_53178 2 = .ok (.aload_n 0, 1) := by decide +kernel
theorem dJ7_fill_53178_3 : decode cJ7_fill_53178 3 = .ok (.arraylength, 1) := by decide +kernel
theorem dJ7_fill_53178_4 : decode cJ7_fill_53178 4 = .ok (.istore_n 3, 1) := by decide +kernel
theorem dJ7_fill_53178_5 : decode cJ7_fill_53178 5 = .ok (.iload_n 2, 1) := by decide +kernel
theorem dJ7_fill_53178_6 : decode cJ7_fill_53178 6 = .ok (.iload_n 3, 1) := by decide +kernel
theorem dJ7_fill_53178_7 : decode cJ7_fill_53178 7 = .ok (.if_icmp .ge 13, 3) := by decide +kernel
theorem dJ7_fill_53178_10 : decode cJ7_fill_53178 10 = .ok (.aload_n 0, 1) := by decide +kernel
theorem dJ7_fill_53178_11 : decode cJ7_fill_53178 11 = .ok (.iload_n 2, 1) := by decide +kernel
theorem dJ7_fill_53178_12 : decode cJ7_fill_53178 12 = .ok (.iload_n 1, 1) := by decide +kernel
theorem dJ7_fill_53178_13 : decode cJ7_fill_53178 13 = .ok (.iastore, 1) := by decide +kernel
theorem dJ7_fill_53178_14 : decode cJ7_fill_53178 14 = .ok (.iinc 2 1, 3) := by decide +kernel
theorem dJ7_fill_53178_17 : decode cJ7_fill_53178 17 = .ok (.goto (-12), 3) := by decide +kernel
theorem dJ7_fill_53178_20 : decode cJ7_fill_53178 20 = .ok (.return_, 1) := by decide +kernel
abbrev LJ7_fill_53178_46_5 (l1 l2 l3 : Int32) (I : MI) (Q : MI → Prop) : Prop := WP mJ7_fill_53178 286 Rf0 5 [some (.ref 46), some (.int l1), some (.int l2), some (.int l3)] [] I (qv Q)
set_option maxRecDepth 20000 in
theorem rJ7_fill_53178_46_5 {l1 l2 l3 : Int32} {I : MI} {Q : MI → Prop} (H : ((l3 ≤ l2 → (Q I)) ∧ (¬ l3 ≤ l2 → (vp_in l2 10 ∧ ∀ I1 : MI, I1 = up2 I 46 l2.toNatClampNeg l1 → LJ7_fill_53178_46_5 l1 (l2 + 1) l3 I1 Q)))) : LJ7_fill_53178_46_5 l1 l2 l3 I Q := by
  show WP mJ7_fill_53178 286 Rf0 5 [some (.ref 46), some (.int l1), some (.int l2), some (.int l3)] [] I (qv Q)
  refine w_iload_n dJ7_fill_53178_5 rfl rfl ?_
  refine w_iload_n dJ7_fill_53178_6 rfl rfl ?_
  refine w_icmp_ge (t := 20) dJ7_fill_53178_7 (by decide) (fun h => ?_) (fun h => ?_)
  · replace H := H.1 h
    exact w_vret dJ7_fill_53178_20 rfl ⟨rfl, H⟩
  · replace H := H.2 h
    refine w_aload_n dJ7_fill_53178_10 rfl rfl ?_
    refine w_iload_n dJ7_fill_53178_11 rfl rfl ?_
    refine w_iload_n dJ7_fill_53178_12 rfl rfl ?_
    refine w_iast dJ7_fill_53178_13 kd_46 (by decide) H.1 (w_up fun I1 hI => ?_)
    replace H := H.2 I1 hI
    refine w_iinc (v := l2 + 1) (ls' := [some (.ref 46), some (.int l1), some (.int (l2 + 1)), some (.int l3)]) dJ7_fill_53178_14 rfl rfl (by decide) rfl rfl ?_
    refine w_goto (t := 5) dJ7_fill_53178_17 (by decide) ?_
    skip
    exact H
set_option maxRecDepth 20000 in
theorem rJ7_fill_53178_46 {a2 : Int32} {I : MI} {Q : MI → Prop} (H : (LJ7_fill_53178_46_5 a2 0 10 I Q)) : Wv mJ7_fill_53178 [.ref 46, .int a2] I Q := by
  show WP mJ7_fill_53178 286 Rf0 0 [some (.ref 46), some (.int a2), none, none] [] I (qv Q)
  refine w_iconst (v := 0) dJ7_fill_53178_0 (by decide) ?_
  refine w_istore_n (ls' := [some (.ref 46), some (.int a2), some (.int 0), none]) dJ7_fill_53178_1 rfl (by decide) rfl rfl ?_
  refine w_aload_n dJ7_fill_53178_2 rfl rfl ?_
  refine w_alen (v := 10) dJ7_fill_53178_3 kd_46 (by decide) (by decide) ?_
  refine w_istore_n (ls' := [some (.ref 46), some (.int a2), some (.int 0), some (.int 10)]) dJ7_fill_53178_4 rfl (by decide) rfl rfl ?_
  skip
  exact H
abbrev LJ7_fill_53178_47_5 (l1 l2 l3 : Int32) (I : MI) (Q : MI → Prop) : Prop := WP mJ7_fill_53178 286 Rf0 5 [some (.ref 47), some (.int l1), some (.int l2), some (.int l3)] [] I (qv Q)
set_option maxRecDepth 20000 in
theorem rJ7_fill_53178_47_5 {l1 l2 l3 : Int32} {I : MI} {Q : MI → Prop} (H : ((l3 ≤ l2 → (Q I)) ∧ (¬ l3 ≤ l2 → (vp_in l2 10 ∧ ∀ I1 : MI, I1 = up2 I 47 l2.toNatClampNeg l1 → LJ7_fill_53178_47_5 l1 (l2 + 1) l3 I1 Q)))) : LJ7_fill_53178_47_5 l1 l2 l3 I Q := by
  show WP mJ7_fill_53178 286 Rf0 5 [some (.ref 47), some (.int l1), some (.int l2), some (.int l3)] [] I (qv Q)
  refine w_iload_n dJ7_fill_53178_5 rfl rfl ?_
  refine w_iload_n dJ7_fill_53178_6 rfl rfl ?_
  refine w_icmp_ge (t := 20) dJ7_fill_53178_7 (by decide) (fun h => ?_) (fun h => ?_)
  · replace H := H.1 h
    exact w_vret dJ7_fill_53178_20 rfl ⟨rfl, H⟩
  · replace H := H.2 h
    refine w_aload_n dJ7_fill_53178_10 rfl rfl ?_
    refine w_iload_n dJ7_fill_53178_11 rfl rfl ?_
    refine w_iload_n dJ7_fill_53178_12 rfl rfl ?_
    refine w_iast dJ7_fill_53178_13 kd_47 (by decide) H.1 (w_up fun I1 hI => ?_)
    replace H := H.2 I1 hI
    refine w_iinc (v := l2 + 1) (ls' := [some (.ref 47), some (.int l1), some (.int (l2 + 1)), some (.int l3)]) dJ7_fill_53178_14 rfl rfl (by decide) rfl rfl ?_
    refine w_goto (t := 5) dJ7_fill_53178_17 (by decide) ?_
    skip
    exact H
set_option maxRecDepth 20000 in
theorem rJ7_fill_53178_47 {a2 : Int32} {I : MI} {Q : MI → Prop} (H : (LJ7_fill_53178_47_5 a2 0 10 I Q)) : Wv mJ7_fill_53178 [.ref 47, .int a2] I Q := by
  show WP mJ7_fill_53178 286 Rf0 0 [some (.ref 47), some (.int a2), none, none] [] I (qv Q)
  refine w_iconst (v := 0) dJ7_fill_53178_0 (by decide) ?_
  refine w_istore_n (ls' := [some (.ref 47), some (.int a2), some (.int 0), none]) dJ7_fill_53178_1 rfl (by decide) rfl rfl ?_
  refine w_aload_n dJ7_fill_53178_2 rfl rfl ?_
  refine w_alen (v := 10) dJ7_fill_53178_3 kd_47 (by decide) (by decide) ?_
  refine w_istore_n (ls' := [some (.ref 47), some (.int a2), some (.int 0), some (.int 10)]) dJ7_fill_53178_4 rfl (by decide) rfl rfl ?_
  skip
  exact H
abbrev LJ7_fill_53178_53_5 (l1 l2 l3 : Int32) (I : MI) (Q : MI → Prop) : Prop := WP mJ7_fill_53178 286 Rf0 5 [some (.ref 53), some (.int l1), some (.int l2), some (.int l3)] [] I (qv Q)
set_option maxRecDepth 20000 in
theorem rJ7_fill_53178_53_5 {l1 l2 l3 : Int32} {I : MI} {Q : MI → Prop} (H : ((l3 ≤ l2 → (Q I)) ∧ (¬ l3 ≤ l2 → (vp_in l2 10 ∧ ∀ I1 : MI, I1 = up2 I 53 l2.toNatClampNeg l1 → LJ7_fill_53178_53_5 l1 (l2 + 1) l3 I1 Q)))) : LJ7_fill_53178_53_5 l1 l2 l3 I Q := by
  show WP mJ7_fill_53178 286 Rf0 5 [some (.ref 53), some (.int l1), some (.int l2), some (.int l3)] [] I (qv Q)
  refine w_iload_n dJ7_fill_53178_5 rfl rfl ?_
  refine w_iload_n dJ7_fill_53178_6 rfl rfl ?_
  refine w_icmp_ge (t := 20) dJ7_fill_53178_7 (by decide) (fun h => ?_) (fun h => ?_)
  · replace H := H.1 h
    exact w_vret dJ7_fill_53178_20 rfl ⟨rfl, H⟩
  · replace H := H.2 h
    refine w_aload_n dJ7_fill_53178_10 rfl rfl ?_
    refine w_iload_n dJ7_fill_53178_11 rfl rfl ?_
    refine w_iload_n dJ7_fill_53178_12 rfl rfl ?_
    refine w_iast dJ7_fill_53178_13 kd_53 (by decide) H.1 (w_up fun I1 hI => ?_)
    replace H := H.2 I1 hI
    refine w_iinc (v := l2 + 1) (ls' := [some (.ref 53), some (.int l1), some (.int (l2 + 1)), some (.int l3)]) dJ7_fill_53178_14 rfl rfl (by decide) rfl rfl ?_
    refine w_goto (t := 5) dJ7_fill_53178_17 (by decide) ?_
    skip
    exact H
set_option maxRecDepth 20000 in
theorem rJ7_fill_53178_53 {a2 : Int32} {I : MI} {Q : MI → Prop} (H : (LJ7_fill_53178_53_5 a2 0 10 I Q)) : Wv mJ7_fill_53178 [.ref 53, .int a2] I Q := by
  show WP mJ7_fill_53178 286 Rf0 0 [some (.ref 53), some (.int a2), none, none] [] I (qv Q)
  refine w_iconst (v := 0) dJ7_fill_53178_0 (by decide) ?_
  refine w_istore_n (ls' := [some (.ref 53), some (.int a2), some (.int 0), none]) dJ7_fill_53178_1 rfl (by decide) rfl rfl ?_
  refine w_aload_n dJ7_fill_53178_2 rfl rfl ?_
  refine w_alen (v := 10) dJ7_fill_53178_3 kd_53 (by decide) (by decide) ?_
  refine w_istore_n (ls' := [some (.ref 53), some (.int a2), some (.int 0), some (.int 10)]) dJ7_fill_53178_4 rfl (by decide) rfl rfl ?_
  skip
  exact H
abbrev LJ7_fill_53178_54_5 (l1 l2 l3 : Int32) (I : MI) (Q : MI → Prop) : Prop := WP mJ7_fill_53178 286 Rf0 5 [some (.ref 54), some (.int l1), some (.int l2), some (.int l3)] [] I (qv Q)
set_option maxRecDepth 20000 in
theorem rJ7_fill_53178_54_5 {l1 l2 l3 : Int32} {I : MI} {Q : MI → Prop} (H : ((l3 ≤ l2 → (Q I)) ∧ (¬ l3 ≤ l2 → (vp_in l2 5120 ∧ ∀ I1 : MI, I1 = up2 I 54 l2.toNatClampNeg l1 → LJ7_fill_53178_54_5 l1 (l2 + 1) l3 I1 Q)))) : LJ7_fill_53178_54_5 l1 l2 l3 I Q := by
  show WP mJ7_fill_53178 286 Rf0 5 [some (.ref 54), some (.int l1), some (.int l2), some (.int l3)] [] I (qv Q)
  refine w_iload_n dJ7_fill_53178_5 rfl rfl ?_
  refine w_iload_n dJ7_fill_53178_6 rfl rfl ?_
  refine w_icmp_ge (t := 20) dJ7_fill_53178_7 (by decide) (fun h => ?_) (fun h => ?_)
  · replace H := H.1 h
    exact w_vret dJ7_fill_53178_20 rfl ⟨rfl, H⟩
  · replace H := H.2 h
    refine w_aload_n dJ7_fill_53178_10 rfl rfl ?_
    refine w_iload_n dJ7_fill_53178_11 rfl rfl ?_
    refine w_iload_n dJ7_fill_53178_12 rfl rfl ?_
    refine w_iast dJ7_fill_53178_13 kd_54 (by decide) H.1 (w_up fun I1 hI => ?_)
    replace H := H.2 I1 hI
    refine w_iinc (v := l2 + 1) (ls' := [some (.ref 54), some (.int l1), some (.int (l2 + 1)), some (.int l3)]) dJ7_fill_53178_14 rfl rfl (by decide) rfl rfl ?_
    refine w_goto (t := 5) dJ7_fill_53178_17 (by decide) ?_
    skip
    exact H
set_option maxRecDepth 20000 in
theorem rJ7_fill_53178_54 {a2 : Int32} {I : MI} {Q : MI → Prop} (H : (LJ7_fill_53178_54_5 a2 0 5120 I Q)) : Wv mJ7_fill_53178 [.ref 54, .int a2] I Q := by
  show WP mJ7_fill_53178 286 Rf0 0 [some (.ref 54), some (.int a2), none, none] [] I (qv Q)
  refine w_iconst (v := 0) dJ7_fill_53178_0 (by decide) ?_
  refine w_istore_n (ls' := [some (.ref 54), some (.int a2), some (.int 0), none]) dJ7_fill_53178_1 rfl (by decide) rfl rfl ?_
  refine w_aload_n dJ7_fill_53178_2 rfl rfl ?_
  refine w_alen (v := 5120) dJ7_fill_53178_3 kd_54 (by decide) (by decide) ?_
  refine w_istore_n (ls' := [some (.ref 54), some (.int a2), some (.int 0), some (.int 5120)]) dJ7_fill_53178_4 rfl (by decide) rfl rfl ?_
  skip
  exact H
abbrev LJ7_fill_53178_55_5 (l1 l2 l3 : Int32) (I : MI) (Q : MI → Prop) : Prop := WP mJ7_fill_53178 286 Rf0 5 [some (.ref 55), some (.int l1), some (.int l2), some (.int l3)] [] I (qv Q)
set_option maxRecDepth 20000 in
theorem rJ7_fill_53178_55_5 {l1 l2 l3 : Int32} {I : MI} {Q : MI → Prop} (H : ((l3 ≤ l2 → (Q I)) ∧ (¬ l3 ≤ l2 → (vp_in l2 5120 ∧ ∀ I1 : MI, I1 = up2 I 55 l2.toNatClampNeg l1 → LJ7_fill_53178_55_5 l1 (l2 + 1) l3 I1 Q)))) : LJ7_fill_53178_55_5 l1 l2 l3 I Q := by
  show WP mJ7_fill_53178 286 Rf0 5 [some (.ref 55), some (.int l1), some (.int l2), some (.int l3)] [] I (qv Q)
  refine w_iload_n dJ7_fill_53178_5 rfl rfl ?_
  refine w_iload_n dJ7_fill_53178_6 rfl rfl ?_
  refine w_icmp_ge (t := 20) dJ7_fill_53178_7 (by decide) (fun h => ?_) (fun h => ?_)
  · replace H := H.1 h
    exact w_vret dJ7_fill_53178_20 rfl ⟨rfl, H⟩
  · replace H := H.2 h
    refine w_aload_n dJ7_fill_53178_10 rfl rfl ?_
    refine w_iload_n dJ7_fill_53178_11 rfl rfl ?_
    refine w_iload_n dJ7_fill_53178_12 rfl rfl ?_
    refine w_iast dJ7_fill_53178_13 kd_55 (by decide) H.1 (w_up fun I1 hI => ?_)
    replace H := H.2 I1 hI
    refine w_iinc (v := l2 + 1) (ls' := [some (.ref 55), some (.int l1), some (.int (l2 + 1)), some (.int l3)]) dJ7_fill_53178_14 rfl rfl (by decide) rfl rfl ?_
    refine w_goto (t := 5) dJ7_fill_53178_17 (by decide) ?_
    skip
    exact H
set_option maxRecDepth 20000 in
theorem rJ7_fill_53178_55 {a2 : Int32} {I : MI} {Q : MI → Prop} (H : (LJ7_fill_53178_55_5 a2 0 5120 I Q)) : Wv mJ7_fill_53178 [.ref 55, .int a2] I Q := by
  show WP mJ7_fill_53178 286 Rf0 0 [some (.ref 55), some (.int a2), none, none] [] I (qv Q)
  refine w_iconst (v := 0) dJ7_fill_53178_0 (by decide) ?_
  refine w_istore_n (ls' := [some (.ref 55), some (.int a2), some (.int 0), none]) dJ7_fill_53178_1 rfl (by decide) rfl rfl ?_
  refine w_aload_n dJ7_fill_53178_2 rfl rfl ?_
  refine w_alen (v := 5120) dJ7_fill_53178_3 kd_55 (by decide) (by decide) ?_
  refine w_istore_n (ls' := [some (.ref 55), some (.int a2), some (.int 0), some (.int 5120)]) dJ7_fill_53178_4 rfl (by decide) rfl rfl ?_
  skip
  exact H
