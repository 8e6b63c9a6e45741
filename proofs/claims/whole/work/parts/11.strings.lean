theorem dJ0_length_8abf5_0 : decode cJ0_length_8abf5 0 = .ok (.aload_n 0, 1) := by decide +kernel
theorem dJ0_length_8abf5_1 : decode cJ0_length_8abf5 1 = .ok (.getfield 9, 3) := by decide +kernel
theorem dJ0_length_8abf5_4 : decode cJ0_length_8abf5 4 = .ok (.arraylength, 1) := by decide +kernel
theorem dJ0_length_8abf5_5 : decode cJ0_length_8abf5 5 = .ok (.aload_n 0, 1) := by decide +kernel
theorem dJ0_length_8abf5_6 : decode cJ0_length_8abf5 6 = .ok (.invokevirtual 335, 3) := by decide +kernel
theorem dJ0_length_8abf5_9 : decode cJ0_length_8abf5 9 = .ok (.ishr, 1) := by decide +kernel
theorem dJ0_length_8abf5_10 : decode cJ0_length_8abf5 10 = .ok (.ireturn, 1) := by decide +kernel
theorem dJ0_charAt_5068e_0 : decode cJ0_charAt_5068e 0 = .ok (.aload_n 0, 1) := by decide +kernel
theorem dJ0_charAt_5068e_1 : decode cJ0_charAt_5068e 1 = .ok (.invokevirtual 492, 3) := by decide +kernel
theorem dJ0_charAt_5068e_4 : decode cJ0_charAt_5068e 4 = .ok (.ifCond .eq 12, 3) := by decide +kernel
theorem dJ0_charAt_5068e_7 : decode cJ0_charAt_5068e 7 = .ok (.aload_n 0, 1) := by decide +kernel
theorem dJ0_charAt_5068e_8 : decode cJ0_charAt_5068e 8 = .ok (.getfield 9, 3) := by decide +kernel
theorem dJ0_charAt_5068e_11 : decode cJ0_charAt_5068e 11 = .ok (.iload_n 1, 1) := by decide +kernel
theorem dJ0_charAt_5068e_12 : decode cJ0_charAt_5068e 12 = .ok (.invokestatic 495, 3) := by decide +kernel
theorem dJ0_charAt_5068e_15 : decode cJ0_charAt_5068e 15 = .ok (.ireturn, 1) := by decide +kernel
theorem dJ0_charAt_5068e_16 : decode cJ0_charAt_5068e 16 = .ok (.aload_n 0, 1) := by decide +kernel
theorem dJ0_charAt_5068e_17 : decode cJ0_charAt_5068e 17 = .ok (.getfield 9, 3) := by decide +kernel
theorem dJ0_charAt_5068e_20 : decode cJ0_charAt_5068e 20 = .ok (.iload_n 1, 1) := by decide +kernel
theorem dJ0_charAt_5068e_21 : decode cJ0_charAt_5068e 21 = .ok (.invokestatic 498, 3) := by decide +kernel
theorem dJ0_charAt_5068e_24 : decode cJ0_charAt_5068e 24 = .ok (.ireturn, 1) := by decide +kernel
theorem dJ0_coder_7d493_0 : decode cJ0_coder_7d493 0 = .ok (.getstatic 38, 3) := by decide +kernel
theorem dJ0_coder_7d493_3 : decode cJ0_coder_7d493 3 = .ok (.ifCond .eq 10, 3) := by decide +kernel
theorem dJ0_coder_7d493_6 : decode cJ0_coder_7d493 6 = .ok (.aload_n 0, 1) := by decide +kernel
theorem dJ0_coder_7d493_7 : decode cJ0_coder_7d493 7 = .ok (.getfield 15, 3) := by decide +kernel
theorem dJ0_coder_7d493_10 : decode cJ0_coder_7d493 10 = .ok (.goto 4, 3) := by decide +kernel
theorem dJ0_coder_7d493_13 : decode cJ0_coder_7d493 13 = .ok (.iconst 1, 1) := by decide +kernel
theorem dJ0_coder_7d493_14 : decode cJ0_coder_7d493 14 = .ok (.ireturn, 1) := by decide +kernel
theorem dJ0_isLatin1_aae02_0 : decode cJ0_isLatin1_aae02 0 = .ok (.getstatic 38, 3) := by decide +kernel
theorem dJ0_isLatin1_aae02_3 : decode cJ0_isLatin1_aae02 3 = .ok (.ifCond .eq 14, 3) := by decide +kernel
theorem dJ0_isLatin1_aae02_6 : decode cJ0_isLatin1_aae02 6 = .ok (.aload_n 0, 1) := by decide +kernel
theorem dJ0_isLatin1_aae02_7 : decode cJ0_isLatin1_aae02 7 = .ok (.getfield 15, 3) := by decide +kernel
theorem dJ0_isLatin1_aae02_10 : decode cJ0_isLatin1_aae02 10 = .ok (.ifCond .ne 7, 3) := by decide +kernel
theorem dJ0_isLatin1_aae02_13 : decode cJ0_isLatin1_aae02 13 = .ok (.iconst 1, 1) := by decide +kernel
theorem dJ0_isLatin1_aae02_14 : decode cJ0_isLatin1_aae02 14 = .ok (.goto 4, 3) := by decide +kernel
theorem dJ0_isLatin1_aae02_17 : decode cJ0_isLatin1_aae02 17 = .ok (.iconst 0, 1) := by decide +kernel
theorem dJ0_isLatin1_aae02_18 : decode cJ0_isLatin1_aae02 18 = .ok (.ireturn, 1) := by decide +kernel
theorem dJ0_checkIndex_df160_0 : decode cJ0_checkIndex_df160 0 = .ok (.iload_n 0, 1) := by decide +kernel
theorem dJ0_checkIndex_df160_1 : decode cJ0_checkIndex_df160 1 = .ok (.iload_n 1, 1) := by decide +kernel
theorem dJ0_checkIndex_df160_2 : decode cJ0_checkIndex_df160 2 = .ok (.getstatic 1053, 3) := by decide +kernel
theorem dJ0_checkIndex_df160_5 : decode cJ0_checkIndex_df160 5 = .ok (.invokestatic 1059, 3) := by decide +kernel
theorem dJ0_checkIndex_df160_8 : decode cJ0_checkIndex_df160 8 = .ok (.pop, 1) := by decide +kernel
theorem dJ0_checkIndex_df160_9 : decode cJ0_checkIndex_df160 9 = .ok (.return_, 1) := by decide +kernel
theorem dJ1_charAt_3b067_0 : decode cJ1_charAt_3b067 0 = .ok (.iload_n 1, 1) := by decide +kernel
theorem dJ1_charAt_3b067_1 : decode cJ1_charAt_3b067 1 = .ok (.aload_n 0, 1) := by decide +kernel
theorem dJ1_charAt_3b067_2 : decode cJ1_charAt_3b067 2 = .ok (.arraylength, 1) := by decide +kernel
theorem dJ1_charAt_3b067_3 : decode cJ1_charAt_3b067 3 = .ok (.invokestatic 9, 3) := by decide +kernel
theorem dJ1_charAt_3b067_6 : decode cJ1_charAt_3b067 6 = .ok (.aload_n 0, 1) := by decide +kernel
theorem dJ1_charAt_3b067_7 : decode cJ1_charAt_3b067 7 = .ok (.iload_n 1, 1) := by decide +kernel
theorem dJ1_charAt_3b067_8 : decode cJ1_charAt_3b067 8 = .ok (.baload, 1) := by decide +kernel
theorem dJ1_charAt_3b067_9 : decode cJ1_charAt_3b067 9 = .ok (.sipush 255, 3) := by decide +kernel
theorem dJ1_charAt_3b067_12 : decode cJ1_charAt_3b067 12 = .ok (.iand, 1) := by decide +kernel
theorem dJ1_charAt_3b067_13 : decode cJ1_charAt_3b067 13 = .ok (.i2c, 1) := by decide +kernel
theorem dJ1_charAt_3b067_14 : decode cJ1_charAt_3b067 14 = .ok (.ireturn, 1) := by decide +kernel
theorem dJ3_checkIndex_8e157_0 : decode cJ3_checkIndex_8e157 0 = .ok (.iload_n 0, 1) := by decide +kernel
theorem dJ3_checkIndex_8e157_1 : decode cJ3_checkIndex_8e157 1 = .ok (.ifCond .lt 8, 3) := by decide +kernel
theorem dJ3_checkIndex_8e157_4 : decode cJ3_checkIndex_8e157 4 = .ok (.iload_n 0, 1) := by decide +kernel
theorem dJ3_checkIndex_8e157_5 : decode cJ3_checkIndex_8e157 5 = .ok (.iload_n 1, 1) := by decide +kernel
theorem dJ3_checkIndex_8e157_6 : decode cJ3_checkIndex_8e157 6 = .ok (.if_icmp .lt 10, 3) := by decide +kernel
theorem dJ3_checkIndex_8e157_9 : decode cJ3_checkIndex_8e157 9 = .ok (.aload_n 2, 1) := by decide +kernel
theorem dJ3_checkIndex_8e157_10 : decode cJ3_checkIndex_8e157 10 = .ok (.iload_n 0, 1) := by decide +kernel
theorem dJ3_checkIndex_8e157_11 : decode cJ3_checkIndex_8e157 11 = .ok (.iload_n 1, 1) := by decide +kernel
theorem dJ3_checkIndex_8e157_12 : decode cJ3_checkIndex_8e157 12 = .ok (.invokestatic 95, 3) := by decide +kernel
theorem dJ3_checkIndex_8e157_15 : decode cJ3_checkIndex_8e157 15 = .ok (.athrow, 1) := by decide +kernel
theorem dJ3_checkIndex_8e157_16 : decode cJ3_checkIndex_8e157 16 = .ok (.iload_n 0, 1) := by decide +kernel
theorem dJ3_checkIndex_8e157_17 : decode cJ3_checkIndex_8e157 17 = .ok (.ireturn, 1) := by decide +kernel
/-! the JDK's own methods on the seven words -/
theorem sJ_bytes : ∀ j, j < 7 → ∀ k, k < 6 → ((((strByt.getD j []).getD k 0) &&& 255).toUInt32 % 65536).toInt32 = (strByt.getD j []).getD k 0 ∧ narrow .char (.int ((strByt.getD j []).getD k 0)) = .int ((strByt.getD j []).getD k 0) := by decide +kernel
theorem sJ_len : ∀ j, j < 7 → strLen.getD j 0 < 7 ∧ (Int32.ofNat (strLen.getD j 0) >>> ((0 : Int32) &&& 31)) = Int32.ofNat (strLen.getD j 0) := by decide +kernel
section SJ
variable {I : MI} {j : Nat} {i : Int32}
theorem sJ_coder {Q : Int32 → MI → Prop} (hj : j < 7) (H : Q 0 I) : Wi mJ0_coder_7d493 [.retAddr (2 * j + 1)] I Q := by
  show WP mJ0_coder_7d493 286 Rf0 0 [some (.retAddr (2 * j + 1))] [] I (qi Q)
  refine w_strK dJ0_coder_7d493_0 (tb_in 562 (by decide +kernel) rfl) ?_
  refine w_if_eq (t := 13) dJ0_coder_7d493_3 (by decide) (fun h => absurd h (by decide)) (fun h => ?_)
  refine w_aload_nS dJ0_coder_7d493_6 rfl rfl ?_
  refine w_strC hj dJ0_coder_7d493_7 (tb_in 1540 (by decide +kernel) rfl) ?_
  refine w_goto (t := 14) dJ0_coder_7d493_10 (by decide) ?_
  exact w_zret dJ0_coder_7d493_14 rfl rfl ⟨_, rfl, H⟩
theorem sJ_length {Q : Int32 → MI → Prop} (hj : j < 7) (H : Q (Int32.ofNat (strLen.getD j 0)) I) : Wi mJ0_length_8abf5 [.retAddr (2 * j + 1)] I Q := by
  show WP mJ0_length_8abf5 286 Rf0 0 [some (.retAddr (2 * j + 1))] [] I (qi Q)
  refine w_aload_nS dJ0_length_8abf5_0 rfl rfl ?_
  refine w_strV (ref := "java/lang/String") hj dJ0_length_8abf5_1 (tb_in 1539 (by decide +kernel) rfl) ?_
  refine w_strL hj dJ0_length_8abf5_4 rfl ?_
  refine w_aload_nS dJ0_length_8abf5_5 rfl rfl ?_
  refine w_callW (j := j) (st := [.int (Int32.ofNat (strLen.getD j 0))]) (As := []) hj dJ0_length_8abf5_6 (tb_in 558 (by decide +kernel) rfl) okJ0_coder_7d493 rfl rfl (Nat.le_of_ble_eq_true rfl) (by decide) (Nat.le_of_ble_eq_true rfl) (wc_i (Q1 := fun r I1 => r = 0 ∧ I = I1) (sJ_coder hj ⟨rfl, rfl⟩) (fun r I1 h => ?_))
  obtain ⟨rfl, rfl⟩ := h
  refine w_ishr dJ0_length_8abf5_9 ?_
  rw [(sJ_len j hj).2]
  exact w_iret dJ0_length_8abf5_10 rfl ⟨_, rfl, H⟩
theorem sJ_latin {Q : Int32 → MI → Prop} (hj : j < 7) (H : Q 1 I) : Wi mJ0_isLatin1_aae02 [.retAddr (2 * j + 1)] I Q := by
  show WP mJ0_isLatin1_aae02 286 Rf0 0 [some (.retAddr (2 * j + 1))] [] I (qi Q)
  refine w_strK dJ0_isLatin1_aae02_0 (tb_in 562 (by decide +kernel) rfl) ?_
  refine w_if_eq (t := 17) dJ0_isLatin1_aae02_3 (by decide) (fun h => absurd h (by decide)) (fun h => ?_)
  refine w_aload_nS dJ0_isLatin1_aae02_6 rfl rfl ?_
  refine w_strC hj dJ0_isLatin1_aae02_7 (tb_in 1540 (by decide +kernel) rfl) ?_
  refine w_if_ne (t := 17) dJ0_isLatin1_aae02_10 (by decide) (fun h => absurd rfl h) (fun h => ?_)
  refine w_iconst (v := 1) dJ0_isLatin1_aae02_13 (by decide) ?_
  refine w_goto (t := 18) dJ0_isLatin1_aae02_14 (by decide) ?_
  exact w_zret dJ0_isLatin1_aae02_18 rfl rfl ⟨_, rfl, H⟩
theorem sJ_pre {Q : Int32 → MI → Prop} {k : Int32} (h0 : ¬ i < 0) (h1 : i < k) (H : Q i I) : Wi mJ3_checkIndex_8e157 [.int i, .int k, .retAddr 0] I Q := by
  show WP mJ3_checkIndex_8e157 286 Rf0 0 [some (.int i), some (.int k), some (.retAddr 0)] [] I (qi Q)
  refine w_iload_n dJ3_checkIndex_8e157_0 rfl rfl ?_
  refine w_if_lt (t := 9) dJ3_checkIndex_8e157_1 (by decide) (fun h => absurd h h0) (fun h => ?_)
  refine w_iload_n dJ3_checkIndex_8e157_4 rfl rfl ?_
  refine w_iload_n dJ3_checkIndex_8e157_5 rfl rfl ?_
  refine w_icmp_lt (t := 16) dJ3_checkIndex_8e157_6 (by decide) (fun h => ?_) (fun h => absurd h1 h)
  refine w_iload_n dJ3_checkIndex_8e157_16 rfl rfl ?_
  exact w_iret dJ3_checkIndex_8e157_17 rfl ⟨_, rfl, H⟩
theorem sJ_chk {Q : MI → Prop} {k : Int32} (h0 : ¬ i < 0) (h1 : i < k) (H : Q I) : Wv mJ0_checkIndex_df160 [.int i, .int k] I Q := by
  show WP mJ0_checkIndex_df160 286 Rf0 0 [some (.int i), some (.int k)] [] I (qv Q)
  refine w_iload_n dJ0_checkIndex_df160_0 rfl rfl ?_
  refine w_iload_n dJ0_checkIndex_df160_1 rfl rfl ?_
  refine w_strF dJ0_checkIndex_df160_2 (tb_in 578 (by decide +kernel) rfl) ?_
  refine w_callS (st := []) (As := [.int i, .int k, .retAddr 0]) dJ0_checkIndex_df160_5 (tb_in 580 (by decide +kernel) rfl) okJ3_checkIndex_8e157 rfl (Nat.le_of_ble_eq_true rfl) (by decide) (Nat.le_of_ble_eq_true rfl) (wc_i (Q1 := fun r I1 => I = I1) (sJ_pre h0 h1 rfl) (fun r I1 h => ?_))
  subst h
  refine w_pop dJ0_checkIndex_df160_8 rfl ?_
  exact w_vret dJ0_checkIndex_df160_9 rfl ⟨rfl, H⟩
theorem vp_lt {i : Int32} {N : Nat} (hN : N < 2 ^ 31) (h : vp_in i N) : ¬ i < 0 ∧ i < Int32.ofNat N ∧ i.toNatClampNeg < N := by
  obtain ⟨k, hk, rfl⟩ := vp_in_of h hN
  exact ⟨nI_pos (by omega), nI_lt hk hN, by rw [nI_clamp (by omega)]; exact hk⟩
theorem sJ_lat {Q : Int32 → MI → Prop} (hj : j < 7) (hi : vp_in i (strLen.getD j 0)) (H : Q ((strByt.getD j []).getD i.toNatClampNeg 0) I) : Wi mJ1_charAt_3b067 [.retAddr (2 * j + 2), .int i] I Q := by
  show WP mJ1_charAt_3b067 286 Rf0 0 [some (.retAddr (2 * j + 2)), some (.int i)] [] I (qi Q)
  have hl := (sJ_len j hj).1
  obtain ⟨h0, h1, h2⟩ := vp_lt (by omega) hi
  obtain ⟨e1, e2⟩ := sJ_bytes j hj i.toNatClampNeg (by omega)
  refine w_iload_n dJ1_charAt_3b067_0 rfl rfl ?_
  refine w_aload_nV dJ1_charAt_3b067_1 rfl rfl ?_
  refine w_strL hj dJ1_charAt_3b067_2 rfl ?_
  refine w_callS (st := []) (As := [.int i, .int (Int32.ofNat (strLen.getD j 0))]) dJ1_charAt_3b067_3 (tb_in 575 (by decide +kernel) rfl) okJ0_checkIndex_df160 rfl (Nat.le_of_ble_eq_true rfl) (by decide) (Nat.le_of_ble_eq_true rfl) (wc_v (Q1 := fun I1 => I = I1) (sJ_chk h0 h1 rfl) (fun I1 h => ?_))
  subst h
  refine w_aload_nV dJ1_charAt_3b067_6 rfl rfl ?_
  refine w_iload_n dJ1_charAt_3b067_7 rfl rfl ?_
  refine w_strB hj dJ1_charAt_3b067_8 hi ?_
  refine w_sipush (v := 255) dJ1_charAt_3b067_9 (by decide) ?_
  refine w_iand dJ1_charAt_3b067_12 ?_
  refine w_i2c dJ1_charAt_3b067_13 ?_
  rw [e1]
  exact w_zret dJ1_charAt_3b067_14 rfl e2 ⟨_, rfl, H⟩
theorem sJ_charAt {Q : Int32 → MI → Prop} (hj : j < 7) (hi : vp_in i (strLen.getD j 0)) (H : Q ((strByt.getD j []).getD i.toNatClampNeg 0) I) : Wi mJ0_charAt_5068e [.retAddr (2 * j + 1), .int i] I Q := by
  show WP mJ0_charAt_5068e 286 Rf0 0 [some (.retAddr (2 * j + 1)), some (.int i)] [] I (qi Q)
  have hl := (sJ_len j hj).1
  obtain ⟨h0, h1, h2⟩ := vp_lt (by omega) hi
  obtain ⟨e1, e2⟩ := sJ_bytes j hj i.toNatClampNeg (by omega)
  refine w_aload_nS dJ0_charAt_5068e_0 rfl rfl ?_
  refine w_callW (j := j) (st := []) (As := []) hj dJ0_charAt_5068e_1 (tb_in 568 (by decide +kernel) rfl) okJ0_isLatin1_aae02 rfl rfl (Nat.le_of_ble_eq_true rfl) (by decide) (Nat.le_of_ble_eq_true rfl) (wc_i (Q1 := fun r I1 => r = 1 ∧ I = I1) (sJ_latin hj ⟨rfl, rfl⟩) (fun r I1 h => ?_))
  obtain ⟨rfl, rfl⟩ := h
  refine w_if_eq (t := 16) dJ0_charAt_5068e_4 (by decide) (fun h => absurd h (by decide)) (fun h => ?_)
  refine w_aload_nS dJ0_charAt_5068e_7 rfl rfl ?_
  refine w_strV (ref := "java/lang/String") hj dJ0_charAt_5068e_8 (tb_in 1539 (by decide +kernel) rfl) ?_
  refine w_iload_n dJ0_charAt_5068e_11 rfl rfl ?_
  refine w_callS (st := []) (As := [.retAddr (2 * j + 2), .int i]) dJ0_charAt_5068e_12 (tb_in 572 (by decide +kernel) rfl) okJ1_charAt_3b067 rfl (Nat.le_of_ble_eq_true rfl) (by decide) (Nat.le_of_ble_eq_true rfl) (wc_i (Q1 := fun r I1 => r = (strByt.getD j []).getD i.toNatClampNeg 0 ∧ I = I1) (sJ_lat hj hi ⟨rfl, rfl⟩) (fun r I1 h => ?_))
  obtain ⟨rfl, rfl⟩ := h
  exact w_zret dJ0_charAt_5068e_15 rfl e2 ⟨_, rfl, H⟩
end SJ
