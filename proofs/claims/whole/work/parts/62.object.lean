/-! the history, the whole object -/
theorem dX2_init_0 : decode cX2_init 0 = .ok (.aload_n 0, 1) := by decide +kernel
theorem dX2_init_1 : decode cX2_init 1 = .ok (.invokespecial 3, 3) := by decide +kernel
theorem dX2_init_4 : decode cX2_init 4 = .ok (.aload_n 0, 1) := by decide +kernel
theorem dX2_init_5 : decode cX2_init 5 = .ok (.bipush 12, 2) := by decide +kernel
theorem dX2_init_7 : decode cX2_init 7 = .ok (.anewarray 9, 3) := by decide +kernel
theorem dX2_init_10 : decode cX2_init 10 = .ok (.putfield 11, 3) := by decide +kernel
theorem dX2_init_13 : decode cX2_init 13 = .ok (.iconst 0, 1) := by decide +kernel
theorem dX2_init_14 : decode cX2_init 14 = .ok (.istore_n 1, 1) := by decide +kernel
theorem dX2_init_15 : decode cX2_init 15 = .ok (.iload_n 1, 1) := by decide +kernel
theorem dX2_init_16 : decode cX2_init 16 = .ok (.bipush 12, 2) := by decide +kernel
theorem dX2_init_18 : decode cX2_init 18 = .ok (.if_icmp .ge 22, 3) := by decide +kernel
theorem dX2_init_21 : decode cX2_init 21 = .ok (.aload_n 0, 1) := by decide +kernel
theorem dX2_init_22 : decode cX2_init 22 = .ok (.getfield 11, 3) := by decide +kernel
theorem dX2_init_25 : decode cX2_init 25 = .ok (.iload_n 1, 1) := by decide +kernel
theorem dX2_init_26 : decode cX2_init 26 = .ok (.new 9, 3) := by decide +kernel
theorem dX2_init_29 : decode cX2_init 29 = .ok (.dup, 1) := by decide +kernel
theorem dX2_init_30 : decode cX2_init 30 = .ok (.invokespecial 17, 3) := by decide +kernel
theorem dX2_init_33 : decode cX2_init 33 = .ok (.aastore, 1) := by decide +kernel
theorem dX2_init_34 : decode cX2_init 34 = .ok (.iinc 1 1, 3) := by decide +kernel
theorem dX2_init_37 : decode cX2_init 37 = .ok (.goto (-22), 3) := by decide +kernel
theorem dX2_init_40 : decode cX2_init 40 = .ok (.return_, 1) := by decide +kernel
theorem shH : ∀ i, i < 12 → Sh8 (63 + 14 * i) := by
  intro i hi
  have h : i = 0 ∨ i = 1 ∨ i = 2 ∨ i = 3 ∨ i = 4 ∨ i = 5 ∨ i = 6 ∨ i = 7 ∨ i = 8 ∨ i = 9 ∨ i = 10 ∨ i = 11 := by omega
  rcases h with h | h | h | h | h | h | h | h | h | h | h | h <;> subst h <;> decide +kernel
theorem rfH : ∀ i, i < 12 → Rf0 62 i = some (63 + 14 * i) := by decide +kernel
theorem lvB2 {n a : Nat} {x : Int32} (h : a < n) : lvB n [some (.ref a), some (.int x)] = true := by simp [lvB, bvB, h]
theorem stB3 {n a : Nat} {x : Int32} (h : a < n) : [Value.int x, Value.ref a].all (bvB n) = true := by simp [bvB, h]
theorem stB4 {n a b : Nat} {x : Int32} (h : a < n) (h2 : b < n) : [Value.ref b, Value.int x, Value.ref a].all (bvB n) = true := by simp [bvB, h, h2]
theorem n12 {i : Nat} (h : i < 12) : ¬ (12 : Int32) ≤ nI i := by
  rw [Int32.le_iff_toInt_le, nI_toInt (by omega)]
  show ¬ (12 : Int) ≤ _
  omega
theorem nX2 {R0 : MR} {I0 : MI} (hz : I0 61 = fun _ => 0) (hr : R0 61 = fun _ => none) : WC mX2_init 169 4020 62 231 [.ref 61] R0 I0 (Qc 61 231 R0 I0) := by
  intro G ad0 A p l e s m args below meth c hm
  have s0 := St_0 hz hr
  have loop : ∀ (k i n cs ss : Nat), k + i = 12 → n = 63 + 14 * i → cs = 1 + 14 * i → ss = 12 + 334 * i → ∀ (R : MR) (I : MI), St 61 62 i n R0 I0 (updR (fun _ => none) 0 62) (fun _ => 0) R I → WB G ad0 62 A p l e (rmA mX2_init 169 4020) s m args below meth c (MQ below (Poa G ad0 A 62 231 (Qc 61 231 R0 I0)) args s 169 4020 A) mX2_init cs ss n R 15 [some (.ref 61), some (.int (nI i))] [] I := by
    intro k
    induction k with
    | zero =>
      intro i n cs ss hk hn hcs hss R I s1
      have h12 : i = 12 := by omega
      subst h12
      refine wb_iload_n dX2_init_15 rfl rfl ?_
      refine wb_bipush (v := 12) dX2_init_16 rfl ?_
      refine wb_icmp_ge (t := 40) dX2_init_18 rfl (fun _ => ?_) (fun h => absurd (by decide) h)
      have s2 := St_close s1 kd_62 (by decide) rq_62
      refine wb_vret dX2_init_40 rfl (by omega) (by omega) (by omega) ?_
      have hn' : n = 231 := by omega
      subst hn'
      refine St_fin s2 kd_61 ?_ (Iv_o kd_61 (by decide)).symm
      intro k hk
      have hk0 := cls_2 k hk
      subst hk0
      rw [rf_61_0]; rfl
    | succ k ih =>
      intro i n cs ss hk hn hcs hss R I s1
      have hi : i < 12 := by omega
      have sh := shH i hi
      rw [← hn] at sh
      refine wb_iload_n dX2_init_15 rfl rfl ?_
      refine wb_bipush (v := 12) dX2_init_16 rfl ?_
      refine wb_icmp_ge (t := 40) dX2_init_18 rfl (fun h => absurd h (n12 hi)) (fun _ => ?_)
      refine wb_aload_n dX2_init_21 rfl rfl ?_
      refine wb_getR (r := 62) dX2_init_22 fl_2_11 okC2 kd_61 (by omega) (by decide) rfl (by rw [s1.2.1]; rfl) ?_
      refine wb_iload_n dX2_init_25 rfl rfl ?_
      refine wb_new (N := 12) (n' := n + 1) dX2_init_26 cl_2_9 in_8 ini_8 okC8 sh.2.1 (by omega) dv_8 (by show _ ≤ 169; omega) (by show _ ≤ 4020; omega) (lvB2 (by omega)) (stB3 (by omega)) rfl (fun hz1 hr1 => ?_)
      refine wb_dup dX2_init_29 rfl ?_
      refine wb_ctor (As := []) (nE := n + 14) dX2_init_30 (Or.inr (by decide)) okX8_init im_8 rfl rfl rfl (Nat.le_of_ble_eq_true rfl) ⟨(Nat.le_of_ble_eq_true rfl), (Nat.le_of_ble_eq_true rfl)⟩ ⟨by show _ ≤ 169; omega, by show _ ≤ 4020; omega⟩ (Nat.le_of_ble_eq_true rfl) (lvB2 (by omega)) (stB4 (by omega) (by omega)) (by omega) (fun hi => nX8 sh hz1 hr1) (fun R1 I1 hi1 q1 => ?_)
      have s2 := St_call s1 (by omega) (by omega) q1
      refine wb_aast (j := i) dX2_init_33 kd_62 (by omega) (ci hi (by decide)) sh.2.1 (by omega) (cl (by omega)) ?_
      have s3 := St_el (r := n) (i' := i + 1) s2 (by decide) ((rfH i hi).trans (by rw [hn])) rfl
      refine wb_iinc (v := nI (i + 1)) (ls' := [some (.ref 61), some (.int (nI (i + 1)))]) dX2_init_34 rfl ?_ (by decide) rfl rfl ?_
      · exact nI_add i 1
      refine wb_goto (t := 15) dX2_init_37 rfl ?_
      exact ih (i + 1) (n + 14) (cs + 1 + 13) (ss + 12 + 322) (by omega) (by omega) (by omega) (by omega) _ _ s3
  show WB G ad0 _ A p l e _ s m args below meth c _ mX2_init 0 0 _ R0 0 [some (.ref 61), none] [] I0
  refine wb_aload_n dX2_init_0 rfl rfl ?_
  refine wb_obj dX2_init_1 oi_2 oiI oiC (Nat.le_of_ble_eq_true rfl) (Nat.le_of_ble_eq_true rfl) ?_
  refine wb_aload_n dX2_init_4 rfl rfl ?_
  refine wb_bipush (v := 12) dX2_init_5 rfl ?_
  refine wb_newq (N := 12) (n' := 63) dX2_init_7 cl_2_9 kd_62 (by decide) rfl (by decide) (by decide) (Nat.le_of_ble_eq_true rfl) (Nat.le_of_ble_eq_true rfl) rfl rfl rfl (fun z1 y1 => ?_)
  have s1 := St_q (N := 12) (n' := 63) s0 (by decide) z1 y1 rfl
  refine wb_putR hm dX2_init_10 fl_2_11 okC2 kd_61 (by decide) (by decide) rfl rfl (by decide) (fun _ => rfl) (fun _ => rfl) ?_
  have s2 := St_put (k := 0) (r := 62) s1
  refine wb_iconst (v := 0) dX2_init_13 rfl ?_
  refine wb_istore_n (ls' := [some (.ref 61), some (.int 0)]) dX2_init_14 rfl (by decide) rfl rfl ?_
  exact loop 12 0 63 1 12 rfl rfl rfl rfl _ _ s2
theorem dX11_init_0 : decode cX11_init 0 = .ok (.aload_n 0, 1) := by decide +kernel
theorem dX11_init_1 : decode cX11_init 1 = .ok (.invokespecial 1, 3) := by decide +kernel
theorem dX11_init_4 : decode cX11_init 4 = .ok (.aload_n 0, 1) := by decide +kernel
theorem dX11_init_5 : decode cX11_init 5 = .ok (.new 7, 3) := by decide +kernel
theorem dX11_init_8 : decode cX11_init 8 = .ok (.dup, 1) := by decide +kernel
theorem dX11_init_9 : decode cX11_init 9 = .ok (.invokespecial 9, 3) := by decide +kernel
theorem dX11_init_12 : decode cX11_init 12 = .ok (.putfield 10, 3) := by decide +kernel
theorem dX11_init_15 : decode cX11_init 15 = .ok (.aload_n 0, 1) := by decide +kernel
theorem dX11_init_16 : decode cX11_init 16 = .ok (.new 16, 3) := by decide +kernel
theorem dX11_init_19 : decode cX11_init 19 = .ok (.dup, 1) := by decide +kernel
theorem dX11_init_20 : decode cX11_init 20 = .ok (.aload_n 0, 1) := by decide +kernel
theorem dX11_init_21 : decode cX11_init 21 = .ok (.getfield 10, 3) := by decide +kernel
theorem dX11_init_24 : decode cX11_init 24 = .ok (.invokespecial 18, 3) := by decide +kernel
theorem dX11_init_27 : decode cX11_init 27 = .ok (.putfield 21, 3) := by decide +kernel
theorem dX11_init_30 : decode cX11_init 30 = .ok (.aload_n 0, 1) := by decide +kernel
theorem dX11_init_31 : decode cX11_init 31 = .ok (.new 25, 3) := by decide +kernel
theorem dX11_init_34 : decode cX11_init 34 = .ok (.dup, 1) := by decide +kernel
theorem dX11_init_35 : decode cX11_init 35 = .ok (.invokespecial 27, 3) := by decide +kernel
theorem dX11_init_38 : decode cX11_init 38 = .ok (.putfield 28, 3) := by decide +kernel
theorem dX11_init_41 : decode cX11_init 41 = .ok (.aload_n 0, 1) := by decide +kernel
theorem dX11_init_42 : decode cX11_init 42 = .ok (.new 32, 3) := by decide +kernel
theorem dX11_init_45 : decode cX11_init 45 = .ok (.dup, 1) := by decide +kernel
theorem dX11_init_46 : decode cX11_init 46 = .ok (.invokespecial 34, 3) := by decide +kernel
theorem dX11_init_49 : decode cX11_init 49 = .ok (.putfield 35, 3) := by decide +kernel
theorem dX11_init_52 : decode cX11_init 52 = .ok (.aload_n 0, 1) := by decide +kernel
theorem dX11_init_53 : decode cX11_init 53 = .ok (.new 39, 3) := by decide +kernel
theorem dX11_init_56 : decode cX11_init 56 = .ok (.dup, 1) := by decide +kernel
theorem dX11_init_57 : decode cX11_init 57 = .ok (.aload_n 0, 1) := by decide +kernel
theorem dX11_init_58 : decode cX11_init 58 = .ok (.getfield 28, 3) := by decide +kernel
theorem dX11_init_61 : decode cX11_init 61 = .ok (.aload_n 0, 1) := by decide +kernel
theorem dX11_init_62 : decode cX11_init 62 = .ok (.getfield 35, 3) := by decide +kernel
theorem dX11_init_65 : decode cX11_init 65 = .ok (.invokespecial 41, 3) := by decide +kernel
theorem dX11_init_68 : decode cX11_init 68 = .ok (.putfield 44, 3) := by decide +kernel
theorem dX11_init_71 : decode cX11_init 71 = .ok (.aload_n 0, 1) := by decide +kernel
theorem dX11_init_72 : decode cX11_init 72 = .ok (.new 48, 3) := by decide +kernel
theorem dX11_init_75 : decode cX11_init 75 = .ok (.dup, 1) := by decide +kernel
theorem dX11_init_76 : decode cX11_init 76 = .ok (.aload_n 0, 1) := by decide +kernel
theorem dX11_init_77 : decode cX11_init 77 = .ok (.getfield 28, 3) := by decide +kernel
theorem dX11_init_80 : decode cX11_init 80 = .ok (.aload_n 0, 1) := by decide +kernel
theorem dX11_init_81 : decode cX11_init 81 = .ok (.getfield 35, 3) := by decide +kernel
theorem dX11_init_84 : decode cX11_init 84 = .ok (.invokespecial 50, 3) := by decide +kernel
theorem dX11_init_87 : decode cX11_init 87 = .ok (.putfield 51, 3) := by decide +kernel
theorem dX11_init_90 : decode cX11_init 90 = .ok (.aload_n 0, 1) := by decide +kernel
theorem dX11_init_91 : decode cX11_init 91 = .ok (.new 55, 3) := by decide +kernel
theorem dX11_init_94 : decode cX11_init 94 = .ok (.dup, 1) := by decide +kernel
theorem dX11_init_95 : decode cX11_init 95 = .ok (.invokespecial 57, 3) := by decide +kernel
theorem dX11_init_98 : decode cX11_init 98 = .ok (.putfield 58, 3) := by decide +kernel
theorem dX11_init_101 : decode cX11_init 101 = .ok (.aload_n 0, 1) := by decide +kernel
theorem dX11_init_102 : decode cX11_init 102 = .ok (.new 62, 3) := by decide +kernel
theorem dX11_init_105 : decode cX11_init 105 = .ok (.dup, 1) := by decide +kernel
theorem dX11_init_106 : decode cX11_init 106 = .ok (.aload_n 0, 1) := by decide +kernel
theorem dX11_init_107 : decode cX11_init 107 = .ok (.getfield 28, 3) := by decide +kernel
theorem dX11_init_110 : decode cX11_init 110 = .ok (.aload_n 0, 1) := by decide +kernel
theorem dX11_init_111 : decode cX11_init 111 = .ok (.getfield 44, 3) := by decide +kernel
theorem dX11_init_114 : decode cX11_init 114 = .ok (.aload_n 0, 1) := by decide +kernel
theorem dX11_init_115 : decode cX11_init 115 = .ok (.getfield 51, 3) := by decide +kernel
theorem dX11_init_118 : decode cX11_init 118 = .ok (.invokespecial 64, 3) := by decide +kernel
theorem dX11_init_121 : decode cX11_init 121 = .ok (.putfield 67, 3) := by decide +kernel
theorem dX11_init_124 : decode cX11_init 124 = .ok (.aload_n 0, 1) := by decide +kernel
theorem dX11_init_125 : decode cX11_init 125 = .ok (.new 71, 3) := by decide +kernel
theorem dX11_init_128 : decode cX11_init 128 = .ok (.dup, 1) := by decide +kernel
theorem dX11_init_129 : decode cX11_init 129 = .ok (.aload_n 0, 1) := by decide +kernel
theorem dX11_init_130 : decode cX11_init 130 = .ok (.getfield 28, 3) := by decide +kernel
theorem dX11_init_133 : decode cX11_init 133 = .ok (.aload_n 0, 1) := by decide +kernel
theorem dX11_init_134 : decode cX11_init 134 = .ok (.getfield 35, 3) := by decide +kernel
theorem dX11_init_137 : decode cX11_init 137 = .ok (.aload_n 0, 1) := by decide +kernel
theorem dX11_init_138 : decode cX11_init 138 = .ok (.getfield 44, 3) := by decide +kernel
theorem dX11_init_141 : decode cX11_init 141 = .ok (.aload_n 0, 1) := by decide +kernel
theorem dX11_init_142 : decode cX11_init 142 = .ok (.getfield 51, 3) := by decide +kernel
theorem dX11_init_145 : decode cX11_init 145 = .ok (.invokespecial 73, 3) := by decide +kernel
theorem dX11_init_148 : decode cX11_init 148 = .ok (.putfield 76, 3) := by decide +kernel
theorem dX11_init_151 : decode cX11_init 151 = .ok (.aload_n 0, 1) := by decide +kernel
theorem dX11_init_152 : decode cX11_init 152 = .ok (.new 80, 3) := by decide +kernel
theorem dX11_init_155 : decode cX11_init 155 = .ok (.dup, 1) := by decide +kernel
theorem dX11_init_156 : decode cX11_init 156 = .ok (.invokespecial 82, 3) := by decide +kernel
theorem dX11_init_159 : decode cX11_init 159 = .ok (.putfield 83, 3) := by decide +kernel
theorem dX11_init_162 : decode cX11_init 162 = .ok (.aload_n 0, 1) := by decide +kernel
theorem dX11_init_163 : decode cX11_init 163 = .ok (.iconst 2, 1) := by decide +kernel
theorem dX11_init_164 : decode cX11_init 164 = .ok (.anewarray 32, 3) := by decide +kernel
theorem dX11_init_167 : decode cX11_init 167 = .ok (.putfield 87, 3) := by decide +kernel
theorem dX11_init_170 : decode cX11_init 170 = .ok (.iconst 0, 1) := by decide +kernel
theorem dX11_init_171 : decode cX11_init 171 = .ok (.istore_n 1, 1) := by decide +kernel
theorem dX11_init_172 : decode cX11_init 172 = .ok (.iload_n 1, 1) := by decide +kernel
theorem dX11_init_173 : decode cX11_init 173 = .ok (.iconst 2, 1) := by decide +kernel
theorem dX11_init_174 : decode cX11_init 174 = .ok (.if_icmp .ge 22, 3) := by decide +kernel
theorem dX11_init_177 : decode cX11_init 177 = .ok (.aload_n 0, 1) := by decide +kernel
theorem dX11_init_178 : decode cX11_init 178 = .ok (.getfield 87, 3) := by decide +kernel
theorem dX11_init_181 : decode cX11_init 181 = .ok (.iload_n 1, 1) := by decide +kernel
theorem dX11_init_182 : decode cX11_init 182 = .ok (.new 32, 3) := by decide +kernel
theorem dX11_init_185 : decode cX11_init 185 = .ok (.dup, 1) := by decide +kernel
theorem dX11_init_186 : decode cX11_init 186 = .ok (.invokespecial 34, 3) := by decide +kernel
theorem dX11_init_189 : decode cX11_init 189 = .ok (.aastore, 1) := by decide +kernel
theorem dX11_init_190 : decode cX11_init 190 = .ok (.iinc 1 1, 3) := by decide +kernel
theorem dX11_init_193 : decode cX11_init 193 = .ok (.goto (-21), 3) := by decide +kernel
theorem dX11_init_196 : decode cX11_init 196 = .ok (.aload_n 0, 1) := by decide +kernel
theorem dX11_init_197 : decode cX11_init 197 = .ok (.iconst 2, 1) := by decide +kernel
theorem dX11_init_198 : decode cX11_init 198 = .ok (.newarray .boolean, 2) := by decide +kernel
theorem dX11_init_200 : decode cX11_init 200 = .ok (.putfield 91, 3) := by decide +kernel
theorem dX11_init_203 : decode cX11_init 203 = .ok (.return_, 1) := by decide +kernel
theorem nX11 {R0 : MR} {I0 : MI} (hz : I0 0 = fun _ => 0) (hr : R0 0 = fun _ => none) : WC mX11_init 260 16817 1 261 [.ref 0] R0 I0 (Qc 0 261 R0 I0) := by
  intro G ad0 A p l e s m args below meth c hm
  show WB G ad0 _ A p l e _ s m args below meth c _ mX11_init 0 0 _ R0 0 [some (.ref 0), none] [] I0
  have s0 := St_0 hz hr
  refine wb_aload_n dX11_init_0 rfl rfl ?_
  refine wb_obj dX11_init_1 oi_11 oiI oiC (Nat.le_of_ble_eq_true rfl) (Nat.le_of_ble_eq_true rfl) ?_
  refine wb_aload_n dX11_init_4 rfl rfl ?_
  refine wb_new (N := 6) (n' := 2) dX11_init_5 cl_11_7 in_9 ini_9 okC9 kd_1 (by decide) dv_9 (Nat.le_of_ble_eq_true rfl) (Nat.le_of_ble_eq_true rfl) rfl rfl rfl (fun hz1 hr1 => ?_)
  refine wb_dup dX11_init_8 rfl ?_
  refine wb_ctor (As := []) (nE := 3) dX11_init_9 (Or.inr (by decide)) okX9_init im_9 rfl rfl rfl (Nat.le_of_ble_eq_true rfl) ⟨(Nat.le_of_ble_eq_true rfl), (Nat.le_of_ble_eq_true rfl)⟩ ⟨(Nat.le_of_ble_eq_true rfl), (Nat.le_of_ble_eq_true rfl)⟩ (Nat.le_of_ble_eq_true rfl) rfl rfl (by decide) (fun hi => nX9 hz1 hr1) (fun R1 I1 hi1 q1 => ?_)
  have s1 := St_call s0 (by decide) (by decide) q1
  refine wb_putR hm dX11_init_12 fl_11_10 okC11 kd_0 (by decide) (by decide) rfl rfl (by decide) (fun _ => rfl) (fun _ => rfl) ?_
  have s2 := St_put (k := 0) (r := 1) s1
  refine wb_aload_n dX11_init_15 rfl rfl ?_
  refine wb_new (N := 5) (n' := 4) dX11_init_16 cl_11_16 in_5 ini_5 okC5 kd_3 (by decide) dv_5 (Nat.le_of_ble_eq_true rfl) (Nat.le_of_ble_eq_true rfl) rfl rfl rfl (fun hz3 hr3 => ?_)
  refine wb_dup dX11_init_19 rfl ?_
  refine wb_aload_n dX11_init_20 rfl rfl ?_
  refine wb_getR (r := 1) dX11_init_21 fl_11_10 okC11 kd_0 (by decide) (by decide) rfl (by rw [s2.2.1]; rfl) ?_
  refine wb_ctor (As := [.ref 1]) (nE := 24) dX11_init_24 (Or.inl ml_11_18) okX5_init im_5 rfl rfl rfl (Nat.le_of_ble_eq_true rfl) ⟨(Nat.le_of_ble_eq_true rfl), (Nat.le_of_ble_eq_true rfl)⟩ ⟨(Nat.le_of_ble_eq_true rfl), (Nat.le_of_ble_eq_true rfl)⟩ (Nat.le_of_ble_eq_true rfl) rfl rfl (by decide) (fun hi => nX5 hz3 hr3) (fun R3 I3 hi3 q3 => ?_)
  have s3 := St_call s2 (by decide) (by decide) q3
  refine wb_putR hm dX11_init_27 fl_11_21 okC11 kd_0 (by decide) (by decide) rfl rfl (by decide) (fun _ => rfl) (fun _ => rfl) ?_
  have s4 := St_put (k := 1) (r := 3) s3
  refine wb_aload_n dX11_init_30 rfl rfl ?_
  refine wb_new (N := 12) (n' := 25) dX11_init_31 cl_11_25 in_6 ini_6 okC6 kd_24 (by decide) dv_6 (Nat.le_of_ble_eq_true rfl) (Nat.le_of_ble_eq_true rfl) rfl rfl rfl (fun hz24 hr24 => ?_)
  refine wb_dup dX11_init_34 rfl ?_
  refine wb_ctor (As := []) (nE := 30) dX11_init_35 (Or.inl ml_11_27) okX6_init im_6 rfl rfl rfl (Nat.le_of_ble_eq_true rfl) ⟨(Nat.le_of_ble_eq_true rfl), (Nat.le_of_ble_eq_true rfl)⟩ ⟨(Nat.le_of_ble_eq_true rfl), (Nat.le_of_ble_eq_true rfl)⟩ (Nat.le_of_ble_eq_true rfl) rfl rfl (by decide) (fun hi => nX6 (by decide +kernel) hz24 hr24) (fun R5 I5 hi5 q5 => ?_)
  have s5 := St_call s4 (by decide) (by decide) q5
  refine wb_putR hm dX11_init_38 fl_11_28 okC11 kd_0 (by decide) (by decide) rfl rfl (by decide) (fun _ => rfl) (fun _ => rfl) ?_
  have s6 := St_put (k := 2) (r := 24) s5
  refine wb_aload_n dX11_init_41 rfl rfl ?_
  refine wb_new (N := 12) (n' := 31) dX11_init_42 cl_11_32 in_8 ini_8 okC8 kd_30 (by decide) dv_8 (Nat.le_of_ble_eq_true rfl) (Nat.le_of_ble_eq_true rfl) rfl rfl rfl (fun hz30 hr30 => ?_)
  refine wb_dup dX11_init_45 rfl ?_
  refine wb_ctor (As := []) (nE := 44) dX11_init_46 (Or.inr (by decide)) okX8_init im_8 rfl rfl rfl (Nat.le_of_ble_eq_true rfl) ⟨(Nat.le_of_ble_eq_true rfl), (Nat.le_of_ble_eq_true rfl)⟩ ⟨(Nat.le_of_ble_eq_true rfl), (Nat.le_of_ble_eq_true rfl)⟩ (Nat.le_of_ble_eq_true rfl) rfl rfl (by decide) (fun hi => nX8 (by decide +kernel) hz30 hr30) (fun R7 I7 hi7 q7 => ?_)
  have s7 := St_call s6 (by decide) (by decide) q7
  refine wb_putR hm dX11_init_49 fl_11_35 okC11 kd_0 (by decide) (by decide) rfl rfl (by decide) (fun _ => rfl) (fun _ => rfl) ?_
  have s8 := St_put (k := 3) (r := 30) s7
  refine wb_aload_n dX11_init_52 rfl rfl ?_
  refine wb_new (N := 2) (n' := 45) dX11_init_53 cl_11_39 in_10 ini_10 okC10 kd_44 (by decide) dv_10 (Nat.le_of_ble_eq_true rfl) (Nat.le_of_ble_eq_true rfl) rfl rfl rfl (fun hz44 hr44 => ?_)
  refine wb_dup dX11_init_56 rfl ?_
  refine wb_aload_n dX11_init_57 rfl rfl ?_
  refine wb_getR (r := 24) dX11_init_58 fl_11_28 okC11 kd_0 (by decide) (by decide) rfl (by rw [s8.2.1]; rfl) ?_
  refine wb_aload_n dX11_init_61 rfl rfl ?_
  refine wb_getR (r := 30) dX11_init_62 fl_11_35 okC11 kd_0 (by decide) (by decide) rfl (by rw [s8.2.1]; rfl) ?_
  refine wb_ctor (As := [.ref 24, .ref 30]) (nE := 45) dX11_init_65 (Or.inl ml_11_41) okX10_init im_10 rfl rfl rfl (Nat.le_of_ble_eq_true rfl) ⟨(Nat.le_of_ble_eq_true rfl), (Nat.le_of_ble_eq_true rfl)⟩ ⟨(Nat.le_of_ble_eq_true rfl), (Nat.le_of_ble_eq_true rfl)⟩ (Nat.le_of_ble_eq_true rfl) rfl rfl (by decide) (fun hi => nX10 hz44 hr44) (fun R9 I9 hi9 q9 => ?_)
  have s9 := St_call s8 (by decide) (by decide) q9
  refine wb_putR hm dX11_init_68 fl_11_44 okC11 kd_0 (by decide) (by decide) rfl rfl (by decide) (fun _ => rfl) (fun _ => rfl) ?_
  have s10 := St_put (k := 4) (r := 44) s9
  refine wb_aload_n dX11_init_71 rfl rfl ?_
  refine wb_new (N := 4) (n' := 46) dX11_init_72 cl_11_48 in_4 ini_4 okC4 kd_45 (by decide) dv_4 (Nat.le_of_ble_eq_true rfl) (Nat.le_of_ble_eq_true rfl) rfl rfl rfl (fun hz45 hr45 => ?_)
  refine wb_dup dX11_init_75 rfl ?_
  refine wb_aload_n dX11_init_76 rfl rfl ?_
  refine wb_getR (r := 24) dX11_init_77 fl_11_28 okC11 kd_0 (by decide) (by decide) rfl (by rw [s10.2.1]; rfl) ?_
  refine wb_aload_n dX11_init_80 rfl rfl ?_
  refine wb_getR (r := 30) dX11_init_81 fl_11_35 okC11 kd_0 (by decide) (by decide) rfl (by rw [s10.2.1]; rfl) ?_
  refine wb_ctor (As := [.ref 24, .ref 30]) (nE := 48) dX11_init_84 (Or.inl ml_11_50) okX4_init im_4 rfl rfl rfl (Nat.le_of_ble_eq_true rfl) ⟨(Nat.le_of_ble_eq_true rfl), (Nat.le_of_ble_eq_true rfl)⟩ ⟨(Nat.le_of_ble_eq_true rfl), (Nat.le_of_ble_eq_true rfl)⟩ (Nat.le_of_ble_eq_true rfl) rfl rfl (by decide) (fun hi => nX4 hz45 hr45) (fun R11 I11 hi11 q11 => ?_)
  have s11 := St_call s10 (by decide) (by decide) q11
  refine wb_putR hm dX11_init_87 fl_11_51 okC11 kd_0 (by decide) (by decide) rfl rfl (by decide) (fun _ => rfl) (fun _ => rfl) ?_
  have s12 := St_put (k := 5) (r := 45) s11
  refine wb_aload_n dX11_init_90 rfl rfl ?_
  refine wb_new (N := 2) (n' := 49) dX11_init_91 cl_11_55 in_7 ini_7 okC7 kd_48 (by decide) dv_7 (Nat.le_of_ble_eq_true rfl) (Nat.le_of_ble_eq_true rfl) rfl rfl rfl (fun hz48 hr48 => ?_)
  refine wb_dup dX11_init_94 rfl ?_
  refine wb_ctor (As := []) (nE := 50) dX11_init_95 (Or.inr (by decide)) okX7_init im_7 rfl rfl rfl (Nat.le_of_ble_eq_true rfl) ⟨(Nat.le_of_ble_eq_true rfl), (Nat.le_of_ble_eq_true rfl)⟩ ⟨(Nat.le_of_ble_eq_true rfl), (Nat.le_of_ble_eq_true rfl)⟩ (Nat.le_of_ble_eq_true rfl) rfl rfl (by decide) (fun hi => nX7 (by decide +kernel) hz48 hr48) (fun R13 I13 hi13 q13 => ?_)
  have s13 := St_call s12 (by decide) (by decide) q13
  refine wb_putR hm dX11_init_98 fl_11_58 okC11 kd_0 (by decide) (by decide) rfl rfl (by decide) (fun _ => rfl) (fun _ => rfl) ?_
  have s14 := St_put (k := 6) (r := 48) s13
  refine wb_aload_n dX11_init_101 rfl rfl ?_
  refine wb_new (N := 10) (n' := 51) dX11_init_102 cl_11_62 in_1 ini_1 okC1 kd_50 (by decide) dv_1 (Nat.le_of_ble_eq_true rfl) (Nat.le_of_ble_eq_true rfl) rfl rfl rfl (fun hz50 hr50 => ?_)
  refine wb_dup dX11_init_105 rfl ?_
  refine wb_aload_n dX11_init_106 rfl rfl ?_
  refine wb_getR (r := 24) dX11_init_107 fl_11_28 okC11 kd_0 (by decide) (by decide) rfl (by rw [s14.2.1]; rfl) ?_
  refine wb_aload_n dX11_init_110 rfl rfl ?_
  refine wb_getR (r := 44) dX11_init_111 fl_11_44 okC11 kd_0 (by decide) (by decide) rfl (by rw [s14.2.1]; rfl) ?_
  refine wb_aload_n dX11_init_114 rfl rfl ?_
  refine wb_getR (r := 45) dX11_init_115 fl_11_51 okC11 kd_0 (by decide) (by decide) rfl (by rw [s14.2.1]; rfl) ?_
  refine wb_ctor (As := [.ref 24, .ref 44, .ref 45]) (nE := 56) dX11_init_118 (Or.inl ml_11_64) okX1_init im_1 rfl rfl rfl (Nat.le_of_ble_eq_true rfl) ⟨(Nat.le_of_ble_eq_true rfl), (Nat.le_of_ble_eq_true rfl)⟩ ⟨(Nat.le_of_ble_eq_true rfl), (Nat.le_of_ble_eq_true rfl)⟩ (Nat.le_of_ble_eq_true rfl) rfl rfl (by decide) (fun hi => nX1 hz50 hr50) (fun R15 I15 hi15 q15 => ?_)
  have s15 := St_call s14 (by decide) (by decide) q15
  refine wb_putR hm dX11_init_121 fl_11_67 okC11 kd_0 (by decide) (by decide) rfl rfl (by decide) (fun _ => rfl) (fun _ => rfl) ?_
  have s16 := St_put (k := 7) (r := 50) s15
  refine wb_aload_n dX11_init_124 rfl rfl ?_
  refine wb_new (N := 11) (n' := 57) dX11_init_125 cl_11_71 in_0 ini_0 okC0 kd_56 (by decide) dv_0 (Nat.le_of_ble_eq_true rfl) (Nat.le_of_ble_eq_true rfl) rfl rfl rfl (fun hz56 hr56 => ?_)
  refine wb_dup dX11_init_128 rfl ?_
  refine wb_aload_n dX11_init_129 rfl rfl ?_
  refine wb_getR (r := 24) dX11_init_130 fl_11_28 okC11 kd_0 (by decide) (by decide) rfl (by rw [s16.2.1]; rfl) ?_
  refine wb_aload_n dX11_init_133 rfl rfl ?_
  refine wb_getR (r := 30) dX11_init_134 fl_11_35 okC11 kd_0 (by decide) (by decide) rfl (by rw [s16.2.1]; rfl) ?_
  refine wb_aload_n dX11_init_137 rfl rfl ?_
  refine wb_getR (r := 44) dX11_init_138 fl_11_44 okC11 kd_0 (by decide) (by decide) rfl (by rw [s16.2.1]; rfl) ?_
  refine wb_aload_n dX11_init_141 rfl rfl ?_
  refine wb_getR (r := 45) dX11_init_142 fl_11_51 okC11 kd_0 (by decide) (by decide) rfl (by rw [s16.2.1]; rfl) ?_
  refine wb_ctor (As := [.ref 24, .ref 30, .ref 44, .ref 45]) (nE := 61) dX11_init_145 (Or.inl ml_11_73) okX0_init im_0 rfl rfl rfl (Nat.le_of_ble_eq_true rfl) ⟨(Nat.le_of_ble_eq_true rfl), (Nat.le_of_ble_eq_true rfl)⟩ ⟨(Nat.le_of_ble_eq_true rfl), (Nat.le_of_ble_eq_true rfl)⟩ (Nat.le_of_ble_eq_true rfl) rfl rfl (by decide) (fun hi => nX0 hz56 hr56) (fun R17 I17 hi17 q17 => ?_)
  have s17 := St_call s16 (by decide) (by decide) q17
  refine wb_putR hm dX11_init_148 fl_11_76 okC11 kd_0 (by decide) (by decide) rfl rfl (by decide) (fun _ => rfl) (fun _ => rfl) ?_
  have s18 := St_put (k := 8) (r := 56) s17
  refine wb_aload_n dX11_init_151 rfl rfl ?_
  refine wb_new (N := 3) (n' := 62) dX11_init_152 cl_11_80 in_2 ini_2 okC2 kd_61 (by decide) dv_2 (Nat.le_of_ble_eq_true rfl) (Nat.le_of_ble_eq_true rfl) rfl rfl rfl (fun hz61 hr61 => ?_)
  refine wb_dup dX11_init_155 rfl ?_
  refine wb_ctor (As := []) (nE := 231) dX11_init_156 (Or.inl ml_11_82) okX2_init im_2 rfl rfl rfl (Nat.le_of_ble_eq_true rfl) ⟨(Nat.le_of_ble_eq_true rfl), (Nat.le_of_ble_eq_true rfl)⟩ ⟨(Nat.le_of_ble_eq_true rfl), (Nat.le_of_ble_eq_true rfl)⟩ (Nat.le_of_ble_eq_true rfl) rfl rfl (by decide) (fun hi => nX2 hz61 hr61) (fun R19 I19 hi19 q19 => ?_)
  have s19 := St_call s18 (by decide) (by decide) q19
  refine wb_putR hm dX11_init_159 fl_11_83 okC11 kd_0 (by decide) (by decide) rfl rfl (by decide) (fun _ => rfl) (fun _ => rfl) ?_
  have s20 := St_put (k := 9) (r := 61) s19
  refine wb_aload_n dX11_init_162 rfl rfl ?_
  refine wb_iconst (v := 2) dX11_init_163 rfl ?_
  refine wb_newq (N := 2) (n' := 232) dX11_init_164 cl_11_32 kd_231 (by decide) rfl (by decide) (by decide) (Nat.le_of_ble_eq_true rfl) (Nat.le_of_ble_eq_true rfl) rfl rfl rfl (fun z21 y21 => ?_)
  have s21 := St_q (N := 2) (n' := 232) s20 (by decide) z21 y21 rfl
  refine wb_putR hm dX11_init_167 fl_11_87 okC11 kd_0 (by decide) (by decide) rfl rfl (by decide) (fun _ => rfl) (fun _ => rfl) ?_
  have s22 := St_put (k := 10) (r := 231) s21
  refine wb_iconst (v := 0) dX11_init_170 rfl ?_
  refine wb_istore_n (ls' := [some (.ref 0), some (.int 0)]) dX11_init_171 rfl (by decide) rfl rfl ?_
  refine wb_iload_n dX11_init_172 rfl rfl ?_
  refine wb_iconst (v := 2) dX11_init_173 rfl ?_
  refine wb_icmp_ge (t := 196) dX11_init_174 rfl (fun h => absurd h (by decide)) (fun _ => ?_)
  refine wb_aload_n dX11_init_177 rfl rfl ?_
  refine wb_getR (r := 231) dX11_init_178 fl_11_87 okC11 kd_0 (by decide) (by decide) rfl (by rw [s22.2.1]; rfl) ?_
  refine wb_iload_n dX11_init_181 rfl rfl ?_
  refine wb_new (N := 12) (n' := 233) dX11_init_182 cl_11_32 in_8 ini_8 okC8 kd_232 (by decide) dv_8 (Nat.le_of_ble_eq_true rfl) (Nat.le_of_ble_eq_true rfl) rfl rfl rfl (fun hz232 hr232 => ?_)
  refine wb_dup dX11_init_185 rfl ?_
  refine wb_ctor (As := []) (nE := 246) dX11_init_186 (Or.inr (by decide)) okX8_init im_8 rfl rfl rfl (Nat.le_of_ble_eq_true rfl) ⟨(Nat.le_of_ble_eq_true rfl), (Nat.le_of_ble_eq_true rfl)⟩ ⟨(Nat.le_of_ble_eq_true rfl), (Nat.le_of_ble_eq_true rfl)⟩ (Nat.le_of_ble_eq_true rfl) rfl rfl (by decide) (fun hi => nX8 (by decide +kernel) hz232 hr232) (fun R23 I23 hi23 q23 => ?_)
  have s23 := St_call s22 (by decide) (by decide) q23
  refine wb_aast (j := 0) dX11_init_189 kd_231 (by decide) (ci (n := 0) (by decide) (by decide)) kd_232 (by decide) rfl ?_
  have s24 := St_el (r := 232) (i' := 1) s23 (by decide) rfl rfl
  refine wb_iinc (v := 1) (ls' := [some (.ref 0), some (.int 1)]) dX11_init_190 rfl rfl (by decide) rfl rfl ?_
  refine wb_goto (t := 172) dX11_init_193 rfl ?_
  refine wb_iload_n dX11_init_172 rfl rfl ?_
  refine wb_iconst (v := 2) dX11_init_173 rfl ?_
  refine wb_icmp_ge (t := 196) dX11_init_174 rfl (fun h => absurd h (by decide)) (fun _ => ?_)
  refine wb_aload_n dX11_init_177 rfl rfl ?_
  refine wb_getR (r := 231) dX11_init_178 fl_11_87 okC11 kd_0 (by decide) (by decide) rfl (by rw [s24.2.1]; rfl) ?_
  refine wb_iload_n dX11_init_181 rfl rfl ?_
  refine wb_new (N := 12) (n' := 247) dX11_init_182 cl_11_32 in_8 ini_8 okC8 kd_246 (by decide) dv_8 (Nat.le_of_ble_eq_true rfl) (Nat.le_of_ble_eq_true rfl) rfl rfl rfl (fun hz246 hr246 => ?_)
  refine wb_dup dX11_init_185 rfl ?_
  refine wb_ctor (As := []) (nE := 260) dX11_init_186 (Or.inr (by decide)) okX8_init im_8 rfl rfl rfl (Nat.le_of_ble_eq_true rfl) ⟨(Nat.le_of_ble_eq_true rfl), (Nat.le_of_ble_eq_true rfl)⟩ ⟨(Nat.le_of_ble_eq_true rfl), (Nat.le_of_ble_eq_true rfl)⟩ (Nat.le_of_ble_eq_true rfl) rfl rfl (by decide) (fun hi => nX8 (by decide +kernel) hz246 hr246) (fun R25 I25 hi25 q25 => ?_)
  have s25 := St_call s24 (by decide) (by decide) q25
  refine wb_aast (j := 1) dX11_init_189 kd_231 (by decide) (ci (n := 1) (by decide) (by decide)) kd_246 (by decide) rfl ?_
  have s26 := St_el (r := 246) (i' := 2) s25 (by decide) rfl rfl
  have s27 := St_close s26 kd_231 (by decide) rq_231
  refine wb_iinc (v := 2) (ls' := [some (.ref 0), some (.int 2)]) dX11_init_190 rfl rfl (by decide) rfl rfl ?_
  refine wb_goto (t := 172) dX11_init_193 rfl ?_
  refine wb_iload_n dX11_init_172 rfl rfl ?_
  refine wb_iconst (v := 2) dX11_init_173 rfl ?_
  refine wb_icmp_ge (t := 196) dX11_init_174 rfl (fun _ => ?_) (fun h => absurd (by decide) h)
  refine wb_aload_n dX11_init_196 rfl rfl ?_
  refine wb_iconst (v := 2) dX11_init_197 rfl ?_
  refine wb_newa (N := 2) (n' := 261) dX11_init_198 acZ rfl kd_260 (Or.inr (Or.inr ⟨rfl, rfl⟩)) (by decide) rfl (by decide) (by decide) (Nat.le_of_ble_eq_true rfl) (Nat.le_of_ble_eq_true rfl) rfl rfl rfl (fun z28 _ => ?_)
  have s28 := St_arr (n' := 261) s27 kd_260 (Or.inr (Or.inr rfl)) z28 rfl
  refine wb_putR hm dX11_init_200 fl_11_91 okC11 kd_0 (by decide) (by decide) rfl rfl (by decide) (fun _ => rfl) (fun _ => rfl) ?_
  have s29 := St_put (k := 11) (r := 260) s28
  refine wb_vret dX11_init_203 rfl rfl rfl rfl (St_fin s29 kd_0 ?_ ?_)
  · intro k hk
    rcases cls_11 k hk with rfl | rfl | rfl | rfl | rfl | rfl | rfl | rfl | rfl | rfl | rfl | rfl
    · rw [rf_0_0]; rfl
    · rw [rf_0_1]; rfl
    · rw [rf_0_2]; rfl
    · rw [rf_0_3]; rfl
    · rw [rf_0_4]; rfl
    · rw [rf_0_5]; rfl
    · rw [rf_0_6]; rfl
    · rw [rf_0_7]; rfl
    · rw [rf_0_8]; rfl
    · rw [rf_0_9]; rfl
    · rw [rf_0_10]; rfl
    · rw [rf_0_11]; rfl
  · exact (Iv_o kd_0 (by decide)).symm
