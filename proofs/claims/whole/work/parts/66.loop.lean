/-! the law's loop -/
theorem len6 {L : Nat} (hL : L ≤ 3072) : (nI L - 6).toInt = (L : Int) - 6 := by
  rw [Int32.toInt_sub, nI_toInt (by omega)]
  show ((L : Int) - 6).bmod (2 ^ 32) = _
  unfold Int.bmod
  simp only []
  split <;> omega
theorem Sim_up {b : Nat} {I : MI} (h : Sim b I) : Sim (b + 1) I := by
  obtain ⟨w, h1, h2⟩ := h
  exact ⟨w, WOk_up h1, h2⟩
section
variable {G : gG} {ad0 : Nat → Nat} {n0 : Nat} {A : Nat → Prop} {p : Program} {l : Launch} {e : Env} {s : State} {m : MethodId} {args : Array Value} {below : List Frame} {meth : Method} {c : Code} {Qf : State → Prop} {cs ss : Nat} {I : MI} {L : Nat} {xs : Nat → Int32} {i : Nat}
theorem law_sw (sc : Scp ad0 A s L xs) (hL : L ≤ 3072) (hi : 6 * i + 6 ≤ L) (hcs : cs ≤ room_1.cells ∧ ss ≤ room_1.slots) (hI : Sim i I) (x : Int32) (K : ∀ I2, Sim (i + 1) I2 → WB G ad0 n0 A p l e room_1 s m args below meth c Qf mLaw cs ss 286 Rf0 1174 (lsL i) [] I2) : WB G ad0 n0 A p l e room_1 s m args below meth c Qf mLaw cs ss 286 Rf0 33 (lsL i) [.int x] I := by
  by_cases h : x.toInt < 0 ∨ 39 < x.toInt
  · exact wb_tabO (t := 1174) dL_33 h rfl (K I (Sim_up hI))
  · obtain ⟨k, hk⟩ : ∃ k : Nat, x.toInt = (k : Int) := ⟨x.toInt.toNat, by omega⟩
    have h1 : ¬ x.toInt < 0 := fun q => h (Or.inl q)
    have h2 : ¬ 39 < x.toInt := fun q => h (Or.inr q)
    have e0 : (x.toInt - 0).toNat = k := by omega
    have hk40 : k < 40 := by omega
    clear hk h
    rcases (by omega : k = 0 ∨ k = 1 ∨ k = 2 ∨ k = 3 ∨ k = 4 ∨ k = 5 ∨ k = 6 ∨ k = 7 ∨ k = 8 ∨ k = 9 ∨ k = 10 ∨ k = 11 ∨ k = 12 ∨ k = 13 ∨ k = 14 ∨ k = 15 ∨ k = 16 ∨ k = 17 ∨ k = 18 ∨ k = 19 ∨ k = 20 ∨ k = 21 ∨ k = 22 ∨ k = 23 ∨ k = 24 ∨ k = 25 ∨ k = 26 ∨ k = 27 ∨ k = 28 ∨ k = 29 ∨ k = 30 ∨ k = 31 ∨ k = 32 ∨ k = 33 ∨ k = 34 ∨ k = 35 ∨ k = 36 ∨ k = 37 ∨ k = 38 ∨ k = 39) with q | q | q | q | q | q | q | q | q | q | q | q | q | q | q | q | q | q | q | q | q | q | q | q | q | q | q | q | q | q | q | q | q | q | q | q | q | q | q | q
    · exact wb_tabI (off := 175) (t := 208) dL_33 h1 h2 (by rw [e0, q]; rfl) rfl (lc_0 sc hL hi hcs hI K)
    · exact wb_tabI (off := 238) (t := 271) dL_33 h1 h2 (by rw [e0, q]; rfl) rfl (lc_1 sc hL hi hcs hI K)
    · exact wb_tabI (off := 261) (t := 294) dL_33 h1 h2 (by rw [e0, q]; rfl) rfl (lc_2 sc hL hi hcs hI K)
    · exact wb_tabI (off := 274) (t := 307) dL_33 h1 h2 (by rw [e0, q]; rfl) rfl (lc_3 sc hL hi hcs hI K)
    · exact wb_tabI (off := 287) (t := 320) dL_33 h1 h2 (by rw [e0, q]; rfl) rfl (lc_4 sc hL hi hcs hI K)
    · exact wb_tabI (off := 300) (t := 333) dL_33 h1 h2 (by rw [e0, q]; rfl) rfl (lc_5 sc hL hi hcs hI K)
    · exact wb_tabI (off := 313) (t := 346) dL_33 h1 h2 (by rw [e0, q]; rfl) rfl (lc_6 sc hL hi hcs hI K)
    · exact wb_tabI (off := 326) (t := 359) dL_33 h1 h2 (by rw [e0, q]; rfl) rfl (lc_7 sc hL hi hcs hI K)
    · exact wb_tabI (off := 349) (t := 382) dL_33 h1 h2 (by rw [e0, q]; rfl) rfl (lc_8 sc hL hi hcs hI K)
    · exact wb_tabI (off := 382) (t := 415) dL_33 h1 h2 (by rw [e0, q]; rfl) rfl (lc_9 sc hL hi hcs hI K)
    · exact wb_tabI (off := 415) (t := 448) dL_33 h1 h2 (by rw [e0, q]; rfl) rfl (lc_10 sc hL hi hcs hI K)
    · exact wb_tabI (off := 458) (t := 491) dL_33 h1 h2 (by rw [e0, q]; rfl) rfl (lc_11 sc hL hi hcs hI K)
    · exact wb_tabI (off := 481) (t := 514) dL_33 h1 h2 (by rw [e0, q]; rfl) rfl (lc_12 sc hL hi hcs hI K)
    · exact wb_tabI (off := 494) (t := 527) dL_33 h1 h2 (by rw [e0, q]; rfl) rfl (lc_13 sc hL hi hcs hI K)
    · exact wb_tabI (off := 507) (t := 540) dL_33 h1 h2 (by rw [e0, q]; rfl) rfl (lc_14 sc hL hi hcs hI K)
    · exact wb_tabI (off := 540) (t := 573) dL_33 h1 h2 (by rw [e0, q]; rfl) rfl (lc_15 sc hL hi hcs hI K)
    · exact wb_tabI (off := 563) (t := 596) dL_33 h1 h2 (by rw [e0, q]; rfl) rfl (lc_16 sc hL hi hcs hI K)
    · exact wb_tabI (off := 576) (t := 609) dL_33 h1 h2 (by rw [e0, q]; rfl) rfl (lc_17 sc hL hi hcs hI K)
    · exact wb_tabI (off := 599) (t := 632) dL_33 h1 h2 (by rw [e0, q]; rfl) rfl (lc_18 sc hL hi hcs hI K)
    · exact wb_tabI (off := 622) (t := 655) dL_33 h1 h2 (by rw [e0, q]; rfl) rfl (lc_19 sc hL hi hcs hI K)
    · exact wb_tabI (off := 645) (t := 678) dL_33 h1 h2 (by rw [e0, q]; rfl) rfl (lc_20 sc hL hi hcs hI K)
    · exact wb_tabI (off := 668) (t := 701) dL_33 h1 h2 (by rw [e0, q]; rfl) rfl (lc_21 sc hL hi hcs hI K)
    · exact wb_tabI (off := 691) (t := 724) dL_33 h1 h2 (by rw [e0, q]; rfl) rfl (lc_22 sc hL hi hcs hI K)
    · exact wb_tabI (off := 714) (t := 747) dL_33 h1 h2 (by rw [e0, q]; rfl) rfl (lc_23 sc hL hi hcs hI K)
    · exact wb_tabI (off := 737) (t := 770) dL_33 h1 h2 (by rw [e0, q]; rfl) rfl (lc_24 sc hL hi hcs hI K)
    · exact wb_tabI (off := 750) (t := 783) dL_33 h1 h2 (by rw [e0, q]; rfl) rfl (lc_25 sc hL hi hcs hI K)
    · exact wb_tabI (off := 763) (t := 796) dL_33 h1 h2 (by rw [e0, q]; rfl) rfl (lc_26 sc hL hi hcs hI K)
    · exact wb_tabI (off := 776) (t := 809) dL_33 h1 h2 (by rw [e0, q]; rfl) rfl (lc_27 sc hL hi hcs hI K)
    · exact wb_tabI (off := 799) (t := 832) dL_33 h1 h2 (by rw [e0, q]; rfl) rfl (lc_28 sc hL hi hcs hI K)
    · exact wb_tabI (off := 822) (t := 855) dL_33 h1 h2 (by rw [e0, q]; rfl) rfl (lc_29 sc hL hi hcs hI K)
    · exact wb_tabI (off := 845) (t := 878) dL_33 h1 h2 (by rw [e0, q]; rfl) rfl (lc_30 sc hL hi hcs hI K)
    · exact wb_tabI (off := 858) (t := 891) dL_33 h1 h2 (by rw [e0, q]; rfl) rfl (lc_31 sc hL hi hcs hI K)
    · exact wb_tabI (off := 881) (t := 914) dL_33 h1 h2 (by rw [e0, q]; rfl) rfl (lc_32 sc hL hi hcs hI K)
    · exact wb_tabI (off := 930) (t := 963) dL_33 h1 h2 (by rw [e0, q]; rfl) rfl (lc_33 sc hL hi hcs hI K)
    · exact wb_tabI (off := 963) (t := 996) dL_33 h1 h2 (by rw [e0, q]; rfl) rfl (lc_34 sc hL hi hcs hI K)
    · exact wb_tabI (off := 1006) (t := 1039) dL_33 h1 h2 (by rw [e0, q]; rfl) rfl (lc_35 sc hL hi hcs hI K)
    · exact wb_tabI (off := 1039) (t := 1072) dL_33 h1 h2 (by rw [e0, q]; rfl) rfl (lc_36 sc hL hi hcs hI K)
    · exact wb_tabI (off := 1082) (t := 1115) dL_33 h1 h2 (by rw [e0, q]; rfl) rfl (lc_37 sc hL hi hcs hI K)
    · exact wb_tabI (off := 1095) (t := 1128) dL_33 h1 h2 (by rw [e0, q]; rfl) rfl (lc_38 sc hL hi hcs hI K)
    · exact wb_tabI (off := 1118) (t := 1151) dL_33 h1 h2 (by rw [e0, q]; rfl) rfl (lc_39 sc hL hi hcs hI K)
theorem law_loop (sc : Scp ad0 A s L xs) (hL : L ≤ 3072) (hcs : cs ≤ room_1.cells ∧ ss ≤ room_1.slots) (hend : ∀ (i : Nat) (I : MI), WB G ad0 n0 A p l e room_1 s m args below meth c Qf mLaw cs ss 286 Rf0 1180 (lsL i) [] I) : ∀ (k i : Nat) (I : MI), L ≤ 6 * i + k → i ≤ 600 → Sim i I → WB G ad0 n0 A p l e room_1 s m args below meth c Qf mLaw cs ss 286 Rf0 18 (lsL i) [] I := by
  intro k
  induction k with
  | zero =>
    intro i I hk hi6 hI
    refine wb_iload_n dL_18 rfl rfl ?_
    refine wb_aload_n dL_19 rfl rfl ?_
    refine wb_slen sc dL_20 ?_
    refine wb_bipush (v := 6) dL_21 rfl ?_
    refine wb_isub dL_23 ?_
    refine wb_icmp_gt (t := 1180) dL_24 rfl (fun _ => hend i I) (fun h => absurd ?_ h)
    rw [Int32.lt_iff_toInt_lt, len6 hL, nI_toInt (by omega)]
    omega
  | succ k ih =>
    intro i I hk hi6 hI
    refine wb_iload_n dL_18 rfl rfl ?_
    refine wb_aload_n dL_19 rfl rfl ?_
    refine wb_slen sc dL_20 ?_
    refine wb_bipush (v := 6) dL_21 rfl ?_
    refine wb_isub dL_23 ?_
    refine wb_icmp_gt (t := 1180) dL_24 rfl (fun _ => hend i I) (fun h => ?_)
    rw [Int32.lt_iff_toInt_lt, len6 hL, nI_toInt (by omega)] at h
    have hi : 6 * i + 6 ≤ L := by omega
    refine wb_aload_n dL_27 rfl rfl ?_
    refine wb_iload_n dL_28 rfl rfl ?_
    refine wb_sld (j := 6 * i) sc dL_29 (vpn (6 * i) (by omega) (by omega)) (cl (by omega)) ?_
    refine wb_bipush (v := 63) dL_30 rfl ?_
    refine wb_iand dL_32 ?_
    refine law_sw sc hL hi hcs hI _ (fun I2 h2 => ?_)
    refine wb_iinc (v := nI (6 * (i + 1))) (ls' := lsL (i + 1)) dL_1174 rfl ?_ (by decide) rfl rfl ?_
    · show nI (6 * i) + nI 6 = nI (6 * (i + 1))
      rw [nI_add, Nat.mul_add]
    refine wb_goto (t := 18) dL_1177 rfl ?_
    exact ih (i + 1) I2 (by omega) (by omega) h2
end
